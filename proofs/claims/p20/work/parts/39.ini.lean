/-! ===== parts of a world, side by side ===== -/
section AP
variable {D : va_G} {cl : List vw_C} {H H1 : Heap} {A : Nat → Prop} {a b : va_W}
theorem P_l (h : va_P D cl (a ++ b) H) : va_P D cl a H := fun k q hk => h k q (by rw [List.getElem?_append_left ((List.getElem?_eq_some_iff.mp hk).1)]; exact hk)
theorem ap_r {k : Nat} {q : Nat × va_E} (hk : b[k]? = some q) : (a ++ b)[a.length + k]? = some q := by
  rw [List.getElem?_append_right (by omega), Nat.add_sub_cancel_left]; exact hk
theorem ap_l {k : Nat} {q : Nat × va_E} (hk : a[k]? = some q) : (a ++ b)[k]? = some q := by
  rw [List.getElem?_append_left ((List.getElem?_eq_some_iff.mp hk).1)]; exact hk
theorem P_r (h : va_P D cl (a ++ b) H) : va_P D cl b H := fun _ q hk => h _ q (ap_r hk)
theorem D_l (h : va_D A (a ++ b)) : va_D A a := ⟨fun i j p q hp hq e => h.1 i j p q (ap_l hp) (ap_l hq) e, fun _ q hk => h.2 _ q (ap_l hk)⟩
theorem D_r (h : va_D A (a ++ b)) : va_D A b := ⟨fun i j p q hp hq e => by have := h.1 _ _ p q (ap_r (a := a) hp) (ap_r hq) e; omega, fun _ q hk => h.2 _ q (ap_r hk)⟩
theorem D_x (h : va_D A (a ++ b)) (i j : Nat) (p q : Nat × va_E) (hp : a[i]? = some p) (hq : b[j]? = some q) : p.1 ≠ q.1 := fun e => by
  have h1 := (List.getElem?_eq_some_iff.mp hp).1
  have := h.1 _ _ p q (ap_l (b := b) hp) (ap_r (a := a) hq) e
  omega
theorem D_s (h : va_D A (a ++ b)) : va_D A (b ++ a) := va_D.app (D_r h) (D_l h) (fun i j p q hp hq e => D_x h j i q p hq hp e.symm)
theorem P_s (h : va_P D cl (a ++ b) H) : va_P D cl (b ++ a) H := va_P.app (P_r h) (P_l h)
theorem fr_r {H0 : Heap} {locs : List Loc} (hD : va_D A (a ++ b)) (hS : va_S A H0 H locs) (hA : ∀ q, H0.size ≤ q → A q) (q : Nat) (h : va_A b H.size q) : A q := by
  rcases h with ⟨k, e, h⟩ | h
  · exact (D_r hD).2 k _ h
  · exact hA q (Nat.le_trans hS.1 h)
theorem fr_l {H0 : Heap} {locs : List Loc} (hD : va_D A (a ++ b)) (hS : va_S A H0 H locs) (hA : ∀ q, H0.size ≤ q → A q) (q : Nat) (h : va_A a H.size q) : A q := fr_r (D_s hD) hS hA q h
theorem join_r {w1 : va_W} (hP : va_P D cl (a ++ b) H) (hD : va_D A (a ++ b)) (hk : ∀ q : Nat, q < H.size → ¬ va_A b H.size q → H1[q]? = H[q]?) (hF : ∀ q, va_A b H.size q → A q) (hP1 : va_P D cl w1 H1) (hD1 : va_D (va_A b H.size) w1) : va_P D cl (a ++ w1) H1 ∧ va_D A (a ++ w1) := by
  have apart : ∀ (k : Nat) (q : Nat × va_E), a[k]? = some q → q.1 < H.size ∧ ¬ va_A b H.size q.1 := by
    intro k q hq
    have hl := (P_l hP k q hq).lt
    refine ⟨hl, fun h => ?_⟩
    rcases h with ⟨k2, e, h⟩ | h
    · exact D_x hD k k2 q (q.1, e) hq h rfl
    · omega
  refine ⟨va_P.app (fun k q hq => ?_) hP1, va_D.app (D_l hD) (hD1.weaken (fun k q _ h => hF q.1 h)) (fun i j x y hx hy hxy => ?_)⟩
  · obtain ⟨g1, g2⟩ := apart k q hq
    exact (P_l hP k q hq).kept (hk q.1 g1 g2)
  · exact (apart i x hx).2 (by rw [hxy]; exact hD1.2 j y hy)
theorem join_l {w1 : va_W} (hP : va_P D cl (a ++ b) H) (hD : va_D A (a ++ b)) (hk : ∀ q : Nat, q < H.size → ¬ va_A a H.size q → H1[q]? = H[q]?) (hF : ∀ q, va_A a H.size q → A q) (hP1 : va_P D cl w1 H1) (hD1 : va_D (va_A a H.size) w1) : va_P D cl (w1 ++ b) H1 ∧ va_D A (w1 ++ b) := by
  obtain ⟨h1, h2⟩ := join_r (P_s hP) (D_s hD) hk hF hP1 hD1
  exact ⟨P_s h1, D_s h2⟩
end AP
/-! ===== a constructor that lays arrays into its fields, one statement after the other ===== -/
def VI (K : Kx) (dC : Nat → ClassId) (dI : Nat → Nat → Nat) (A : Nat → Prop) (ls : Array Slot) (ci h0 pc : Nat) (fs : List Value) (ws : va_W) (ty : List (ClassId × FieldType)) (cells slots : Nat) : Prop := match K with
  | (p, l, e, R, s, m, args, below, meth, c, Q) => ∀ (H : Heap) (locs : List Loc), va_P (dC, dI) vwCl ((h0, .inr (ci, fs)) :: ws) H → va_D A ((h0, .inr (ci, fs)) :: ws) → va_K (dC, dI) vwCl ty s → va_S A s.heap H locs → W p l e R s m args below meth c H locs cells slots Q (F0 m pc ls [])
def OkI (K : Kx) (A : Nat → Prop) (ls : Array Slot) (own : String) (cc : ByteArray) (nL h0 : Nat) (rm : Room) : Prop := match K with
  | (p, _, _, R, s, m, args, _, meth, c, _) => p.tables.exec = Jvm.exec ∧ c.code = cc ∧ c.maxLocals = nL ∧ s.vm.findClass own = some m.cls ∧ (∀ w ∈ gtbl, w.before args s = true) ∧ (∀ q, s.heap.size ≤ q → A q) ∧ R = rm ∧ meth.name = "<init>" ∧ ls[0]? = some (.val (.ref h0))
section VI
variable {K : Kx} {dC : Nat → ClassId} {dI : Nat → Nat → Nat} {A : Nat → Prop} {ls : Array Slot} {own : String} {cc : ByteArray} {nL ci h0 pc idx j N : Nat} {rm : Room} {fs fs' : List Value} {ws : va_W} {ty : List (ClassId × FieldType)} {cells slots : Nat} {q : vw_C} {n : Int} {v : Int32} {at1 : ArrayType} {tE : FieldType} {fld : Nat → vw_C → Prop}
theorem vi_arr (h : OkI K A ls own cc nL h0 rm) (hp : (decode cc (pc + 1) = .ok (.bipush n, 2) ∧ (Int8.ofInt n).toInt32 = v ∧ decode cc (pc + 3) = .ok (.newarray at1, 2) ∧ decode cc (pc + 5) = .ok (.putfield idx, 3)))
    (d0 : decode cc pc = .ok (.aload_n 0, 1)) (harr : Cond.arrayClass tE ∈ gtbl) (hat : newarray.typeOf at1 = tE) (hz : ∀ cA : ClassId, vp_cell cA (N, .inl (fun _ => 0)) = arrV cA N (fun _ => defaultValue tE)) (hN : ¬ v < 0 ∧ v.toNatClampNeg = N ∧ N * componentBytes tE ≤ 536870912) (hq : vwCl[ci]? = some q) (hj : j < q.2.2) (hl : Cond.fieldLink own idx (q.2.1 j).1 (q.2.1 j).2.1 (q.2.1 j).2.2.1 ∈ gtbl) (hfin : (q.2.1 j).2.2.2 = true) (hdecl : (q.2.1 j).1 = own) (hty : parseFieldDescriptor (q.2.1 j).2.2.1 = some (.array tE))
    (hc : cells + 1 ≤ rm.cells ∧ slots + N ≤ rm.slots) (hjl : j < fs.length) (kk : ∀ (qa : Nat) (cA : ClassId), VI K dC dI A ls ci h0 (pc + 8) (fs.set j (.ref qa)) (ws ++ [(qa, .inl (cA, N, .inl (fun _ => 0)))]) (ty ++ [(cA, tE)]) (cells + 1) (slots + N)) : VI K dC dI A ls ci h0 pc fs ws ty cells slots := by
  obtain ⟨p, l, e, R, s, m, args, below, meth, c, Q⟩ := K
  obtain ⟨hx, hb, hml, hown, hts, hA, hR, hin, hl0⟩ := h
  obtain ⟨d1, hv, d2, d3⟩ := hp
  obtain ⟨n1, n2, n3⟩ := hN
  subst hR
  intro H locs hP hD hK hS
  obtain ⟨ty0, ht1, ht2⟩ := okT ci q hq
  refine lv_aload_n hx hb d0 rfl hl0 ?_
  refine lv_bipush (v := v) hx hb d1 hv ?_
  subst hat
  refine va_newa (atype := at1) (a0 := (N, .inl (fun _ => 0))) hx hb (hts _ harr) rfl hK hP hD hS hA hz n1 n2 n3 hc.1 hc.2 d2 (fun qa cA H hK hP hD hS => ?_)
  refine va_putF (C := q.1) (T := q.2.1) (N := q.2.2) (v := .ref qa) (ty := .array (newarray.typeOf at1)) (fs := fs) hx hb hts (okC ci q hq) ty0 ht1 ht2 hown hK hP hD hS 0 rfl hq j hj (hts _ hl) (fun _ h9 => h9) hfin hin hdecl hty rfl rfl hjl d3 (fun H locs hP hD hS => ?_)
  exact kk qa cA H locs hP hD hK hS
theorem vi_arrS (h : OkI K A ls own cc nL h0 rm) (hp : (decode cc (pc + 1) = .ok (.sipush n, 3) ∧ (Int16.ofInt n).toInt32 = v ∧ decode cc (pc + 4) = .ok (.newarray at1, 2) ∧ decode cc (pc + 6) = .ok (.putfield idx, 3)))
    (d0 : decode cc pc = .ok (.aload_n 0, 1)) (harr : Cond.arrayClass tE ∈ gtbl) (hat : newarray.typeOf at1 = tE) (hz : ∀ cA : ClassId, vp_cell cA (N, .inl (fun _ => 0)) = arrV cA N (fun _ => defaultValue tE)) (hN : ¬ v < 0 ∧ v.toNatClampNeg = N ∧ N * componentBytes tE ≤ 536870912) (hq : vwCl[ci]? = some q) (hj : j < q.2.2) (hl : Cond.fieldLink own idx (q.2.1 j).1 (q.2.1 j).2.1 (q.2.1 j).2.2.1 ∈ gtbl) (hfin : (q.2.1 j).2.2.2 = true) (hdecl : (q.2.1 j).1 = own) (hty : parseFieldDescriptor (q.2.1 j).2.2.1 = some (.array tE))
    (hc : cells + 1 ≤ rm.cells ∧ slots + N ≤ rm.slots) (hjl : j < fs.length) (kk : ∀ (qa : Nat) (cA : ClassId), VI K dC dI A ls ci h0 (pc + 9) (fs.set j (.ref qa)) (ws ++ [(qa, .inl (cA, N, .inl (fun _ => 0)))]) (ty ++ [(cA, tE)]) (cells + 1) (slots + N)) : VI K dC dI A ls ci h0 pc fs ws ty cells slots := by
  obtain ⟨p, l, e, R, s, m, args, below, meth, c, Q⟩ := K
  obtain ⟨hx, hb, hml, hown, hts, hA, hR, hin, hl0⟩ := h
  obtain ⟨d1, hv, d2, d3⟩ := hp
  obtain ⟨n1, n2, n3⟩ := hN
  subst hR
  intro H locs hP hD hK hS
  obtain ⟨ty0, ht1, ht2⟩ := okT ci q hq
  refine lv_aload_n hx hb d0 rfl hl0 ?_
  refine lv_sipush (v := v) hx hb d1 hv ?_
  subst hat
  refine va_newa (atype := at1) (a0 := (N, .inl (fun _ => 0))) hx hb (hts _ harr) rfl hK hP hD hS hA hz n1 n2 n3 hc.1 hc.2 d2 (fun qa cA H hK hP hD hS => ?_)
  refine va_putF (C := q.1) (T := q.2.1) (N := q.2.2) (v := .ref qa) (ty := .array (newarray.typeOf at1)) (fs := fs) hx hb hts (okC ci q hq) ty0 ht1 ht2 hown hK hP hD hS 0 rfl hq j hj (hts _ hl) (fun _ h9 => h9) hfin hin hdecl hty rfl rfl hjl d3 (fun H locs hP hD hS => ?_)
  exact kk qa cA H locs hP hD hK hS
theorem vi_int (h : OkI K A ls own cc nL h0 rm) (hp : (decode cc (pc + 1) = .ok (.bipush n, 2) ∧ (Int8.ofInt n).toInt32 = v ∧ decode cc (pc + 3) = .ok (.putfield idx, 3)))
    (d0 : decode cc pc = .ok (.aload_n 0, 1)) (hq : vwCl[ci]? = some q) (hj : j < q.2.2) (hl : Cond.fieldLink own idx (q.2.1 j).1 (q.2.1 j).2.1 (q.2.1 j).2.2.1 ∈ gtbl) (hfin : (q.2.1 j).2.2.2 = false) (hty : parseFieldDescriptor (q.2.1 j).2.2.1 = some .int) (hjl : j < fs.length) (kk : VI K dC dI A ls ci h0 (pc + 6) (fs.set j (.int v)) ws ty cells slots) : VI K dC dI A ls ci h0 pc fs ws ty cells slots := by
  obtain ⟨p, l, e, R, s, m, args, below, meth, c, Q⟩ := K
  obtain ⟨hx, hb, hml, hown, hts, hA, hR, hin, hl0⟩ := h
  obtain ⟨d1, hv, d3⟩ := hp
  intro H locs hP hD hK hS
  obtain ⟨ty0, ht1, ht2⟩ := okT ci q hq
  refine lv_aload_n hx hb d0 rfl hl0 ?_
  refine lv_bipush (v := v) hx hb d1 hv ?_
  refine va_put (C := q.1) (T := q.2.1) (N := q.2.2) (v := .int v) (ty := .int) (fs := fs) hx hb hts (okC ci q hq) ty0 ht1 ht2 hown hK hP hD hS 0 rfl hq j hj (hts _ hl) (fun _ h9 => h9) hfin hty rfl rfl hjl d3 (fun H locs hP hD hS => ?_)
  exact kk H locs hP hD hK hS
theorem vi_eq (hf : fs = fs') (kk : VI K dC dI A ls ci h0 pc fs' ws ty cells slots) : VI K dC dI A ls ci h0 pc fs ws ty cells slots := hf ▸ kk
end VI
