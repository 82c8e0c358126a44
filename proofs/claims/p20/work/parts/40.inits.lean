def s0X : St := fun k => match k with
  | 0 => fun j => if j = 9 then 8 else 0
  | _ => fun _ => 0
def s0M : St := fun k => match k with
  | 0 => fun j => if j = 13 then 8 else 0
  | _ => fun _ => 0
theorem dX5_init_0 : decode cX5_init 0 = .ok (.aload_n 0, 1) := by decide +kernel
theorem dX5_init_1 : decode cX5_init 1 = .ok (.invokespecial 3, 3) := by decide +kernel
theorem dX5_init_4 : decode cX5_init 4 = .ok (.aload_n 0, 1) := by decide +kernel
theorem dX5_init_5 : decode cX5_init 5 = .ok (.sipush 320, 3) := by decide +kernel
theorem dX5_init_8 : decode cX5_init 8 = .ok (.newarray .int, 2) := by decide +kernel
theorem dX5_init_10 : decode cX5_init 10 = .ok (.putfield 9, 3) := by decide +kernel
theorem dX5_init_13 : decode cX5_init 13 = .ok (.return_, 1) := by decide +kernel
def lw_X5 (h0 : Nat) (v : (Nat → Nat) × (Nat → ClassId)) : va_W := [(h0, .inr (5, [.ref (v.1 0), .int 0, .int 0])), ((v.1 0), .inl ((v.2 0), 320, .inl (fun _ => 0)))]
def lt_X5 (v : (Nat → Nat) × (Nat → ClassId)) : List (ClassId × FieldType) := [((v.2 0), .int)]
set_option maxRecDepth 100000 in
set_option maxHeartbeats 4000000 in
theorem ci_X5 (l : Launch) (dC : Nat → ClassId) (dI : Nat → Nat → Nat) (h0 sz : Nat) : Met l yX5_init (Cond.code yX5_init cX5_init 1 none :: gtbl) (({ frames := 1, cells := 1, slots := 320, locals := 12 }) : Room) (va_Pc [.ref h0] (fun U => U.heap.size = sz ∧ va_P (dC, dI) vwCl [(h0, .inr (5, [.null, .int 0, .int 0]))] U.heap ∧ va_K (dC, dI) vwCl [] U ∧ va_D (fun _ => True) [(h0, .inr (5, [.null, .int 0, .int 0]))])) (va_Qv (fun v : (Nat → Nat) × (Nat → ClassId) => True) (fun v t => va_P (dC, dI) vwCl (lw_X5 h0 v) t.heap ∧ va_K (dC, dI) vwCl (lt_X5 v) t ∧ va_D (va_A [(h0, .inr (5, [.null, .int 0, .int 0]))] sz) (lw_X5 h0 v)) (va_A [(h0, .inr (5, [.null, .int 0, .int 0]))] sz)) 1 320 (va_A [(h0, .inr (5, [.null, .int 0, .int 0]))] sz) := by
  refine Met.ofW (cc := cX5_init) (maxL := 1) (ret := none) (by decide +kernel) rfl ?_
  intro p e s m args below meth c s₁ B hml hv
  obtain ⟨rfl, hsz, hP, hK, hD0⟩ := hv
  have hx := B.exec
  have hb := B.bytes
  have hr := B.returns
  have hts : ∀ w ∈ gtbl, w.before _ s = true := fun w h => atoms_spec (ws := Cond.code yX5_init cX5_init 1 none :: gtbl) B.pre w (List.mem_cons_of_mem _ h)
  have hown : s.vm.findClass RX5 = some m.cls := findClass_of_methodNamed B.named
  have hlocks := B.notSynchronized
  have hin : meth.name = "<init>" := (name_of_methodNamed B.named B.method).1
  subst hsz
  have hD := hD0.self (sz := s.heap.size)
  generalize hAe : va_A [(h0, .inr (5, [.null, .int 0, .int 0]))] s.heap.size = A at hD ⊢
  have hA : ∀ q : Nat, s.heap.size ≤ q → A q := fun q h => by rw [← hAe]; exact Or.inr h
  have hS : va_S A s.heap s.heap [] := va_S.rf
  have hP : va_P (dC, dI) vwCl [(h0, .inr (5, [.null, .int 0, .int 0]))] s.heap := hP
  have hl := lv_entry ([.ref h0]) (n := 1) (Nat.le_of_ble_eq_true rfl)
  rw [lg_entry_eq]
  generalize (lg_sl ([.ref h0]) ++ List.replicate (1 - (lg_sl ([.ref h0])).length) Slot.unset).toArray = ls at hl ⊢
  have hl : lv_has ls 1 [(0, .ref h0)] := hl
  refine lv_aload_n hx hb dX5_init_0 rfl (lv_at hl 0 rfl) ?_
  refine W.objInit hx hb hown (hts _ wm_X5_3) (hts _ wn_obj) (hts _ wk_obj) rfl (by rw [hml]; exact hl.1) rfl dX5_init_1 (Nat.le_of_ble_eq_true rfl) (Nat.le_of_ble_eq_true rfl) ?_
  refine W.eq (g2 := F0 m 4 ls []) rfl ?_
  refine lv_aload_n hx hb dX5_init_4 rfl (lv_at hl 0 rfl) ?_
  refine lv_sipush (v := 320) hx hb dX5_init_5 (by decide) ?_
  refine va_newa (atype := .int) (a0 := (320, .inl (fun _ => 0))) hx hb (hts _ wa_int) rfl hK hP hD hS hA (fun _ => rfl) (by decide) (by decide) (by decide) (Nat.le_of_ble_eq_true rfl) (Nat.le_of_ble_eq_true rfl) dX5_init_8 (fun q1 cc1 H hK hP hD hS => ?_)
  have hP : va_P (dC, dI) vwCl [(h0, .inr (5, [.null, .int 0, .int 0])), (q1, .inl (cc1, 320, .inl (fun _ => 0)))] H := hP
  have hD : va_D A [(h0, .inr (5, [.null, .int 0, .int 0])), (q1, .inl (cc1, 320, .inl (fun _ => 0)))] := hD
  have hK : va_K (dC, dI) vwCl [(cc1, .int)] s := hK
  refine W.widen (k := 1) (n := 320) (Nat.le_of_ble_eq_true rfl) (Nat.le_of_ble_eq_true rfl) ?_
  refine va_putF (D := (dC, dI)) (ci := 5) (v := .ref q1) (ty := .array .int) (C := RX5) (T := TX5) (N := 3) hx hb hts wa_X5 tyX5 tyX5_ok nmX5 hown hK hP hD hS 0 rfl rfl 0 (by decide) (hts _ wf_X5_9) (fun _ h9 => h9) rfl hin rfl (by decide +kernel) rfl rfl (Nat.le_of_ble_eq_true rfl) dX5_init_10 (fun H locs hP hD hS => ?_)
  have hP : va_P (dC, dI) vwCl [(h0, .inr (5, [.ref q1, .int 0, .int 0])), (q1, .inl (cc1, 320, .inl (fun _ => 0)))] H := hP
  have hD : va_D A [(h0, .inr (5, [.ref q1, .int 0, .int 0])), (q1, .inl (cc1, 320, .inl (fun _ => 0)))] := hD
  subst hAe
  exact W.vret hx hb hr (fun t ht hW => ⟨⟨(fun k => [q1].getD k 0, fun k => [cc1].getD k 0), rfl, trivial, by show va_P _ _ _ t.heap; rw [ht]; exact hP, va_K.moved hW.alike hK, hD⟩, hS.F ht⟩) hS.2.2 dX5_init_13
theorem dX2_init_0 : decode cX2_init 0 = .ok (.aload_n 0, 1) := by decide +kernel
theorem dX2_init_1 : decode cX2_init 1 = .ok (.invokespecial 3, 3) := by decide +kernel
theorem dX2_init_4 : decode cX2_init 4 = .ok (.aload_n 0, 1) := by decide +kernel
theorem dX2_init_5 : decode cX2_init 5 = .ok (.bipush 96, 2) := by decide +kernel
theorem dX2_init_7 : decode cX2_init 7 = .ok (.newarray .int, 2) := by decide +kernel
theorem dX2_init_9 : decode cX2_init 9 = .ok (.putfield 9, 3) := by decide +kernel
theorem dX2_init_12 : decode cX2_init 12 = .ok (.aload_n 0, 1) := by decide +kernel
theorem dX2_init_13 : decode cX2_init 13 = .ok (.bipush 12, 2) := by decide +kernel
theorem dX2_init_15 : decode cX2_init 15 = .ok (.newarray .int, 2) := by decide +kernel
theorem dX2_init_17 : decode cX2_init 17 = .ok (.putfield 15, 3) := by decide +kernel
theorem dX2_init_20 : decode cX2_init 20 = .ok (.aload_n 0, 1) := by decide +kernel
theorem dX2_init_21 : decode cX2_init 21 = .ok (.bipush 32, 2) := by decide +kernel
theorem dX2_init_23 : decode cX2_init 23 = .ok (.newarray .int, 2) := by decide +kernel
theorem dX2_init_25 : decode cX2_init 25 = .ok (.putfield 18, 3) := by decide +kernel
theorem dX2_init_28 : decode cX2_init 28 = .ok (.return_, 1) := by decide +kernel
def lw_X2 (h0 : Nat) (v : (Nat → Nat) × (Nat → ClassId)) : va_W := [(h0, .inr (2, [.ref (v.1 0), .ref (v.1 1), .ref (v.1 2)])), ((v.1 0), .inl ((v.2 0), 96, .inl (fun _ => 0))), ((v.1 1), .inl ((v.2 1), 12, .inl (fun _ => 0))), ((v.1 2), .inl ((v.2 2), 32, .inl (fun _ => 0)))]
def lt_X2 (v : (Nat → Nat) × (Nat → ClassId)) : List (ClassId × FieldType) := [((v.2 0), .int), ((v.2 1), .int), ((v.2 2), .int)]
set_option maxRecDepth 100000 in
set_option maxHeartbeats 4000000 in
theorem ci_X2 (l : Launch) (dC : Nat → ClassId) (dI : Nat → Nat → Nat) (h0 sz : Nat) : Met l yX2_init (Cond.code yX2_init cX2_init 1 none :: gtbl) (({ frames := 1, cells := 3, slots := 140, locals := 12 }) : Room) (va_Pc [.ref h0] (fun U => U.heap.size = sz ∧ va_P (dC, dI) vwCl [(h0, .inr (2, [.null, .null, .null]))] U.heap ∧ va_K (dC, dI) vwCl [] U ∧ va_D (fun _ => True) [(h0, .inr (2, [.null, .null, .null]))])) (va_Qv (fun v : (Nat → Nat) × (Nat → ClassId) => True) (fun v t => va_P (dC, dI) vwCl (lw_X2 h0 v) t.heap ∧ va_K (dC, dI) vwCl (lt_X2 v) t ∧ va_D (va_A [(h0, .inr (2, [.null, .null, .null]))] sz) (lw_X2 h0 v)) (va_A [(h0, .inr (2, [.null, .null, .null]))] sz)) 3 140 (va_A [(h0, .inr (2, [.null, .null, .null]))] sz) := by
  refine Met.ofW (cc := cX2_init) (maxL := 1) (ret := none) (by decide +kernel) rfl ?_
  intro p e s m args below meth c s₁ B hml hv
  obtain ⟨rfl, hsz, hP, hK, hD0⟩ := hv
  have hx := B.exec
  have hb := B.bytes
  have hr := B.returns
  have hts : ∀ w ∈ gtbl, w.before _ s = true := fun w h => atoms_spec (ws := Cond.code yX2_init cX2_init 1 none :: gtbl) B.pre w (List.mem_cons_of_mem _ h)
  have hown : s.vm.findClass RX2 = some m.cls := findClass_of_methodNamed B.named
  have hlocks := B.notSynchronized
  have hin : meth.name = "<init>" := (name_of_methodNamed B.named B.method).1
  subst hsz
  have hD := hD0.self (sz := s.heap.size)
  generalize hAe : va_A [(h0, .inr (2, [.null, .null, .null]))] s.heap.size = A at hD ⊢
  have hA : ∀ q : Nat, s.heap.size ≤ q → A q := fun q h => by rw [← hAe]; exact Or.inr h
  have hS : va_S A s.heap s.heap [] := va_S.rf
  have hP : va_P (dC, dI) vwCl [(h0, .inr (2, [.null, .null, .null]))] s.heap := hP
  have hl := lv_entry ([.ref h0]) (n := 1) (Nat.le_of_ble_eq_true rfl)
  rw [lg_entry_eq]
  generalize (lg_sl ([.ref h0]) ++ List.replicate (1 - (lg_sl ([.ref h0])).length) Slot.unset).toArray = ls at hl ⊢
  have hl : lv_has ls 1 [(0, .ref h0)] := hl
  refine lv_aload_n hx hb dX2_init_0 rfl (lv_at hl 0 rfl) ?_
  refine W.objInit hx hb hown (hts _ wm_X2_3) (hts _ wn_obj) (hts _ wk_obj) rfl (by rw [hml]; exact hl.1) rfl dX2_init_1 (Nat.le_of_ble_eq_true rfl) (Nat.le_of_ble_eq_true rfl) ?_
  refine W.eq (g2 := F0 m 4 ls []) rfl ?_
  refine lv_aload_n hx hb dX2_init_4 rfl (lv_at hl 0 rfl) ?_
  refine lv_bipush (v := 96) hx hb dX2_init_5 (by decide) ?_
  refine va_newa (atype := .int) (a0 := (96, .inl (fun _ => 0))) hx hb (hts _ wa_int) rfl hK hP hD hS hA (fun _ => rfl) (by decide) (by decide) (by decide) (Nat.le_of_ble_eq_true rfl) (Nat.le_of_ble_eq_true rfl) dX2_init_7 (fun q1 cc1 H hK hP hD hS => ?_)
  have hP : va_P (dC, dI) vwCl [(h0, .inr (2, [.null, .null, .null])), (q1, .inl (cc1, 96, .inl (fun _ => 0)))] H := hP
  have hD : va_D A [(h0, .inr (2, [.null, .null, .null])), (q1, .inl (cc1, 96, .inl (fun _ => 0)))] := hD
  have hK : va_K (dC, dI) vwCl [(cc1, .int)] s := hK
  refine W.widen (k := 1) (n := 96) (Nat.le_of_ble_eq_true rfl) (Nat.le_of_ble_eq_true rfl) ?_
  refine va_putF (D := (dC, dI)) (ci := 2) (v := .ref q1) (ty := .array .int) (C := RX2) (T := TX2) (N := 3) hx hb hts wa_X2 tyX2 tyX2_ok nmX2 hown hK hP hD hS 0 rfl rfl 0 (by decide) (hts _ wf_X2_9) (fun _ h9 => h9) rfl hin rfl (by decide +kernel) rfl rfl (Nat.le_of_ble_eq_true rfl) dX2_init_9 (fun H locs hP hD hS => ?_)
  have hP : va_P (dC, dI) vwCl [(h0, .inr (2, [.ref q1, .null, .null])), (q1, .inl (cc1, 96, .inl (fun _ => 0)))] H := hP
  have hD : va_D A [(h0, .inr (2, [.ref q1, .null, .null])), (q1, .inl (cc1, 96, .inl (fun _ => 0)))] := hD
  refine lv_aload_n hx hb dX2_init_12 rfl (lv_at hl 0 rfl) ?_
  refine lv_bipush (v := 12) hx hb dX2_init_13 (by decide) ?_
  refine va_newa (atype := .int) (a0 := (12, .inl (fun _ => 0))) hx hb (hts _ wa_int) rfl hK hP hD hS hA (fun _ => rfl) (by decide) (by decide) (by decide) (Nat.le_of_ble_eq_true rfl) (Nat.le_of_ble_eq_true rfl) dX2_init_15 (fun q2 cc2 H hK hP hD hS => ?_)
  have hP : va_P (dC, dI) vwCl [(h0, .inr (2, [.ref q1, .null, .null])), (q1, .inl (cc1, 96, .inl (fun _ => 0))), (q2, .inl (cc2, 12, .inl (fun _ => 0)))] H := hP
  have hD : va_D A [(h0, .inr (2, [.ref q1, .null, .null])), (q1, .inl (cc1, 96, .inl (fun _ => 0))), (q2, .inl (cc2, 12, .inl (fun _ => 0)))] := hD
  have hK : va_K (dC, dI) vwCl [(cc1, .int), (cc2, .int)] s := hK
  refine W.widen (k := 2) (n := 108) (Nat.le_of_ble_eq_true rfl) (Nat.le_of_ble_eq_true rfl) ?_
  refine va_putF (D := (dC, dI)) (ci := 2) (v := .ref q2) (ty := .array .int) (C := RX2) (T := TX2) (N := 3) hx hb hts wa_X2 tyX2 tyX2_ok nmX2 hown hK hP hD hS 0 rfl rfl 1 (by decide) (hts _ wf_X2_15) (fun _ h9 => h9) rfl hin rfl (by decide +kernel) rfl rfl (Nat.le_of_ble_eq_true rfl) dX2_init_17 (fun H locs hP hD hS => ?_)
  have hP : va_P (dC, dI) vwCl [(h0, .inr (2, [.ref q1, .ref q2, .null])), (q1, .inl (cc1, 96, .inl (fun _ => 0))), (q2, .inl (cc2, 12, .inl (fun _ => 0)))] H := hP
  have hD : va_D A [(h0, .inr (2, [.ref q1, .ref q2, .null])), (q1, .inl (cc1, 96, .inl (fun _ => 0))), (q2, .inl (cc2, 12, .inl (fun _ => 0)))] := hD
  refine lv_aload_n hx hb dX2_init_20 rfl (lv_at hl 0 rfl) ?_
  refine lv_bipush (v := 32) hx hb dX2_init_21 (by decide) ?_
  refine va_newa (atype := .int) (a0 := (32, .inl (fun _ => 0))) hx hb (hts _ wa_int) rfl hK hP hD hS hA (fun _ => rfl) (by decide) (by decide) (by decide) (Nat.le_of_ble_eq_true rfl) (Nat.le_of_ble_eq_true rfl) dX2_init_23 (fun q3 cc3 H hK hP hD hS => ?_)
  have hP : va_P (dC, dI) vwCl [(h0, .inr (2, [.ref q1, .ref q2, .null])), (q1, .inl (cc1, 96, .inl (fun _ => 0))), (q2, .inl (cc2, 12, .inl (fun _ => 0))), (q3, .inl (cc3, 32, .inl (fun _ => 0)))] H := hP
  have hD : va_D A [(h0, .inr (2, [.ref q1, .ref q2, .null])), (q1, .inl (cc1, 96, .inl (fun _ => 0))), (q2, .inl (cc2, 12, .inl (fun _ => 0))), (q3, .inl (cc3, 32, .inl (fun _ => 0)))] := hD
  have hK : va_K (dC, dI) vwCl [(cc1, .int), (cc2, .int), (cc3, .int)] s := hK
  refine W.widen (k := 3) (n := 140) (Nat.le_of_ble_eq_true rfl) (Nat.le_of_ble_eq_true rfl) ?_
  refine va_putF (D := (dC, dI)) (ci := 2) (v := .ref q3) (ty := .array .int) (C := RX2) (T := TX2) (N := 3) hx hb hts wa_X2 tyX2 tyX2_ok nmX2 hown hK hP hD hS 0 rfl rfl 2 (by decide) (hts _ wf_X2_18) (fun _ h9 => h9) rfl hin rfl (by decide +kernel) rfl rfl (Nat.le_of_ble_eq_true rfl) dX2_init_25 (fun H locs hP hD hS => ?_)
  have hP : va_P (dC, dI) vwCl [(h0, .inr (2, [.ref q1, .ref q2, .ref q3])), (q1, .inl (cc1, 96, .inl (fun _ => 0))), (q2, .inl (cc2, 12, .inl (fun _ => 0))), (q3, .inl (cc3, 32, .inl (fun _ => 0)))] H := hP
  have hD : va_D A [(h0, .inr (2, [.ref q1, .ref q2, .ref q3])), (q1, .inl (cc1, 96, .inl (fun _ => 0))), (q2, .inl (cc2, 12, .inl (fun _ => 0))), (q3, .inl (cc3, 32, .inl (fun _ => 0)))] := hD
  subst hAe
  exact W.vret hx hb hr (fun t ht hW => ⟨⟨(fun k => [q1, q2, q3].getD k 0, fun k => [cc1, cc2, cc3].getD k 0), rfl, trivial, by show va_P _ _ _ t.heap; rw [ht]; exact hP, va_K.moved hW.alike hK, hD⟩, hS.F ht⟩) hS.2.2 dX2_init_28
theorem dX1_init_0 : decode cX1_init 0 = .ok (.aload_n 0, 1) := by decide +kernel
theorem dX1_init_1 : decode cX1_init 1 = .ok (.invokespecial 3, 3) := by decide +kernel
theorem dX1_init_4 : decode cX1_init 4 = .ok (.aload_n 0, 1) := by decide +kernel
theorem dX1_init_5 : decode cX1_init 5 = .ok (.bipush 8, 2) := by decide +kernel
theorem dX1_init_7 : decode cX1_init 7 = .ok (.newarray .int, 2) := by decide +kernel
theorem dX1_init_9 : decode cX1_init 9 = .ok (.putfield 9, 3) := by decide +kernel
theorem dX1_init_12 : decode cX1_init 12 = .ok (.aload_n 0, 1) := by decide +kernel
theorem dX1_init_13 : decode cX1_init 13 = .ok (.bipush 8, 2) := by decide +kernel
theorem dX1_init_15 : decode cX1_init 15 = .ok (.newarray .int, 2) := by decide +kernel
theorem dX1_init_17 : decode cX1_init 17 = .ok (.putfield 15, 3) := by decide +kernel
theorem dX1_init_20 : decode cX1_init 20 = .ok (.aload_n 0, 1) := by decide +kernel
theorem dX1_init_21 : decode cX1_init 21 = .ok (.bipush 8, 2) := by decide +kernel
theorem dX1_init_23 : decode cX1_init 23 = .ok (.newarray .int, 2) := by decide +kernel
theorem dX1_init_25 : decode cX1_init 25 = .ok (.putfield 18, 3) := by decide +kernel
theorem dX1_init_28 : decode cX1_init 28 = .ok (.aload_n 0, 1) := by decide +kernel
theorem dX1_init_29 : decode cX1_init 29 = .ok (.bipush 8, 2) := by decide +kernel
theorem dX1_init_31 : decode cX1_init 31 = .ok (.newarray .int, 2) := by decide +kernel
theorem dX1_init_33 : decode cX1_init 33 = .ok (.putfield 21, 3) := by decide +kernel
theorem dX1_init_36 : decode cX1_init 36 = .ok (.aload_n 0, 1) := by decide +kernel
theorem dX1_init_37 : decode cX1_init 37 = .ok (.bipush 8, 2) := by decide +kernel
theorem dX1_init_39 : decode cX1_init 39 = .ok (.newarray .int, 2) := by decide +kernel
theorem dX1_init_41 : decode cX1_init 41 = .ok (.putfield 24, 3) := by decide +kernel
theorem dX1_init_44 : decode cX1_init 44 = .ok (.aload_n 0, 1) := by decide +kernel
theorem dX1_init_45 : decode cX1_init 45 = .ok (.bipush 8, 2) := by decide +kernel
theorem dX1_init_47 : decode cX1_init 47 = .ok (.newarray .int, 2) := by decide +kernel
theorem dX1_init_49 : decode cX1_init 49 = .ok (.putfield 27, 3) := by decide +kernel
theorem dX1_init_52 : decode cX1_init 52 = .ok (.aload_n 0, 1) := by decide +kernel
theorem dX1_init_53 : decode cX1_init 53 = .ok (.bipush 8, 2) := by decide +kernel
theorem dX1_init_55 : decode cX1_init 55 = .ok (.newarray .int, 2) := by decide +kernel
theorem dX1_init_57 : decode cX1_init 57 = .ok (.putfield 30, 3) := by decide +kernel
theorem dX1_init_60 : decode cX1_init 60 = .ok (.aload_n 0, 1) := by decide +kernel
theorem dX1_init_61 : decode cX1_init 61 = .ok (.aload_n 1, 1) := by decide +kernel
theorem dX1_init_62 : decode cX1_init 62 = .ok (.putfield 33, 3) := by decide +kernel
theorem dX1_init_65 : decode cX1_init 65 = .ok (.aload_n 0, 1) := by decide +kernel
theorem dX1_init_66 : decode cX1_init 66 = .ok (.aload_n 2, 1) := by decide +kernel
theorem dX1_init_67 : decode cX1_init 67 = .ok (.putfield 37, 3) := by decide +kernel
theorem dX1_init_70 : decode cX1_init 70 = .ok (.return_, 1) := by decide +kernel
def lw_X1 (h0 a1 a2 : Nat) (v : (Nat → Nat) × (Nat → ClassId)) : va_W := [(h0, .inr (1, (.ref a1 :: .ref a2 :: .int 0 :: .int 0 :: .int 0 :: .int 0 :: .int 0 :: .ref (v.1 0) :: .ref (v.1 1) :: .ref (v.1 2) :: .ref (v.1 3) :: .ref (v.1 4) :: .ref (v.1 5) :: .ref (v.1 6) :: .int 0 :: .int 0 :: .int 0 :: .int 0 :: []))), ((v.1 0), .inl ((v.2 0), 8, .inl (fun _ => 0))), ((v.1 1), .inl ((v.2 1), 8, .inl (fun _ => 0))), ((v.1 2), .inl ((v.2 2), 8, .inl (fun _ => 0))), ((v.1 3), .inl ((v.2 3), 8, .inl (fun _ => 0))), ((v.1 4), .inl ((v.2 4), 8, .inl (fun _ => 0))), ((v.1 5), .inl ((v.2 5), 8, .inl (fun _ => 0))), ((v.1 6), .inl ((v.2 6), 8, .inl (fun _ => 0)))]
def lt_X1 (v : (Nat → Nat) × (Nat → ClassId)) : List (ClassId × FieldType) := [((v.2 0), .int), ((v.2 1), .int), ((v.2 2), .int), ((v.2 3), .int), ((v.2 4), .int), ((v.2 5), .int), ((v.2 6), .int)]
set_option maxRecDepth 100000 in
set_option maxHeartbeats 4000000 in
theorem ci_X1 (l : Launch) (dC : Nat → ClassId) (dI : Nat → Nat → Nat) (h0 a1 a2 sz : Nat) : Met l yX1_init (Cond.code yX1_init cX1_init 3 none :: gtbl) (({ frames := 1, cells := 7, slots := 56, locals := 12 }) : Room) (va_Pc [.ref h0, .ref a1, .ref a2] (fun U => U.heap.size = sz ∧ va_P (dC, dI) vwCl [(h0, .inr (1, (.null :: .null :: .int 0 :: .int 0 :: .int 0 :: .int 0 :: .int 0 :: .null :: .null :: .null :: .null :: .null :: .null :: .null :: .int 0 :: .int 0 :: .int 0 :: .int 0 :: [])))] U.heap ∧ va_K (dC, dI) vwCl [] U ∧ va_D (fun _ => True) [(h0, .inr (1, (.null :: .null :: .int 0 :: .int 0 :: .int 0 :: .int 0 :: .int 0 :: .null :: .null :: .null :: .null :: .null :: .null :: .null :: .int 0 :: .int 0 :: .int 0 :: .int 0 :: [])))])) (va_Qv (fun v : (Nat → Nat) × (Nat → ClassId) => True) (fun v t => va_P (dC, dI) vwCl (lw_X1 h0 a1 a2 v) t.heap ∧ va_K (dC, dI) vwCl (lt_X1 v) t ∧ va_D (va_A [(h0, .inr (1, (.null :: .null :: .int 0 :: .int 0 :: .int 0 :: .int 0 :: .int 0 :: .null :: .null :: .null :: .null :: .null :: .null :: .null :: .int 0 :: .int 0 :: .int 0 :: .int 0 :: [])))] sz) (lw_X1 h0 a1 a2 v)) (va_A [(h0, .inr (1, (.null :: .null :: .int 0 :: .int 0 :: .int 0 :: .int 0 :: .int 0 :: .null :: .null :: .null :: .null :: .null :: .null :: .null :: .int 0 :: .int 0 :: .int 0 :: .int 0 :: [])))] sz)) 7 56 (va_A [(h0, .inr (1, (.null :: .null :: .int 0 :: .int 0 :: .int 0 :: .int 0 :: .int 0 :: .null :: .null :: .null :: .null :: .null :: .null :: .null :: .int 0 :: .int 0 :: .int 0 :: .int 0 :: [])))] sz) := by
  refine Met.ofW (cc := cX1_init) (maxL := 3) (ret := none) (by decide +kernel) rfl ?_
  intro p e s m args below meth c s₁ B hml hv
  obtain ⟨rfl, hsz, hP, hK, hD0⟩ := hv
  have hx := B.exec
  have hb := B.bytes
  have hr := B.returns
  have hts : ∀ w ∈ gtbl, w.before _ s = true := fun w h => atoms_spec (ws := Cond.code yX1_init cX1_init 3 none :: gtbl) B.pre w (List.mem_cons_of_mem _ h)
  have hown : s.vm.findClass RX1 = some m.cls := findClass_of_methodNamed B.named
  have hlocks := B.notSynchronized
  have hin : meth.name = "<init>" := (name_of_methodNamed B.named B.method).1
  subst hsz
  have hD := hD0.self (sz := s.heap.size)
  generalize hAe : va_A [(h0, .inr (1, (.null :: .null :: .int 0 :: .int 0 :: .int 0 :: .int 0 :: .int 0 :: .null :: .null :: .null :: .null :: .null :: .null :: .null :: .int 0 :: .int 0 :: .int 0 :: .int 0 :: [])))] s.heap.size = A at hD ⊢
  have hA : ∀ q : Nat, s.heap.size ≤ q → A q := fun q h => by rw [← hAe]; exact Or.inr h
  have hS : va_S A s.heap s.heap [] := va_S.rf
  have hP : va_P (dC, dI) vwCl [(h0, .inr (1, (.null :: .null :: .int 0 :: .int 0 :: .int 0 :: .int 0 :: .int 0 :: .null :: .null :: .null :: .null :: .null :: .null :: .null :: .int 0 :: .int 0 :: .int 0 :: .int 0 :: [])))] s.heap := hP
  have hl := lv_entry ([.ref h0, .ref a1, .ref a2]) (n := 3) (Nat.le_of_ble_eq_true rfl)
  rw [lg_entry_eq]
  generalize (lg_sl ([.ref h0, .ref a1, .ref a2]) ++ List.replicate (3 - (lg_sl ([.ref h0, .ref a1, .ref a2])).length) Slot.unset).toArray = ls at hl ⊢
  have hl : lv_has ls 3 [(0, .ref h0), (1, .ref a1), (2, .ref a2)] := hl
  refine lv_aload_n hx hb dX1_init_0 rfl (lv_at hl 0 rfl) ?_
  refine W.objInit hx hb hown (hts _ wm_X1_3) (hts _ wn_obj) (hts _ wk_obj) rfl (by rw [hml]; exact hl.1) rfl dX1_init_1 (Nat.le_of_ble_eq_true rfl) (Nat.le_of_ble_eq_true rfl) ?_
  refine W.eq (g2 := F0 m 4 ls []) rfl ?_
  refine lv_aload_n hx hb dX1_init_4 rfl (lv_at hl 0 rfl) ?_
  refine lv_bipush (v := 8) hx hb dX1_init_5 (by decide) ?_
  refine va_newa (atype := .int) (a0 := (8, .inl (fun _ => 0))) hx hb (hts _ wa_int) rfl hK hP hD hS hA (fun _ => rfl) (by decide) (by decide) (by decide) (Nat.le_of_ble_eq_true rfl) (Nat.le_of_ble_eq_true rfl) dX1_init_7 (fun q1 cc1 H hK hP hD hS => ?_)
  have hP : va_P (dC, dI) vwCl [(h0, .inr (1, (.null :: .null :: .int 0 :: .int 0 :: .int 0 :: .int 0 :: .int 0 :: .null :: .null :: .null :: .null :: .null :: .null :: .null :: .int 0 :: .int 0 :: .int 0 :: .int 0 :: []))), (q1, .inl (cc1, 8, .inl (fun _ => 0)))] H := hP
  have hD : va_D A [(h0, .inr (1, (.null :: .null :: .int 0 :: .int 0 :: .int 0 :: .int 0 :: .int 0 :: .null :: .null :: .null :: .null :: .null :: .null :: .null :: .int 0 :: .int 0 :: .int 0 :: .int 0 :: []))), (q1, .inl (cc1, 8, .inl (fun _ => 0)))] := hD
  have hK : va_K (dC, dI) vwCl [(cc1, .int)] s := hK
  refine W.widen (k := 1) (n := 8) (Nat.le_of_ble_eq_true rfl) (Nat.le_of_ble_eq_true rfl) ?_
  refine va_putF (D := (dC, dI)) (ci := 1) (v := .ref q1) (ty := .array .int) (C := RX1) (T := TX1) (N := 18) hx hb hts wa_X1 tyX1 tyX1_ok nmX1 hown hK hP hD hS 0 rfl rfl 7 (by decide) (hts _ wf_X1_9) (fun _ h9 => h9) rfl hin rfl (by decide +kernel) rfl rfl (Nat.le_of_ble_eq_true rfl) dX1_init_9 (fun H locs hP hD hS => ?_)
  have hP : va_P (dC, dI) vwCl [(h0, .inr (1, (.null :: .null :: .int 0 :: .int 0 :: .int 0 :: .int 0 :: .int 0 :: .ref q1 :: .null :: .null :: .null :: .null :: .null :: .null :: .int 0 :: .int 0 :: .int 0 :: .int 0 :: []))), (q1, .inl (cc1, 8, .inl (fun _ => 0)))] H := hP
  have hD : va_D A [(h0, .inr (1, (.null :: .null :: .int 0 :: .int 0 :: .int 0 :: .int 0 :: .int 0 :: .ref q1 :: .null :: .null :: .null :: .null :: .null :: .null :: .int 0 :: .int 0 :: .int 0 :: .int 0 :: []))), (q1, .inl (cc1, 8, .inl (fun _ => 0)))] := hD
  refine lv_aload_n hx hb dX1_init_12 rfl (lv_at hl 0 rfl) ?_
  refine lv_bipush (v := 8) hx hb dX1_init_13 (by decide) ?_
  refine va_newa (atype := .int) (a0 := (8, .inl (fun _ => 0))) hx hb (hts _ wa_int) rfl hK hP hD hS hA (fun _ => rfl) (by decide) (by decide) (by decide) (Nat.le_of_ble_eq_true rfl) (Nat.le_of_ble_eq_true rfl) dX1_init_15 (fun q2 cc2 H hK hP hD hS => ?_)
  have hP : va_P (dC, dI) vwCl [(h0, .inr (1, (.null :: .null :: .int 0 :: .int 0 :: .int 0 :: .int 0 :: .int 0 :: .ref q1 :: .null :: .null :: .null :: .null :: .null :: .null :: .int 0 :: .int 0 :: .int 0 :: .int 0 :: []))), (q1, .inl (cc1, 8, .inl (fun _ => 0))), (q2, .inl (cc2, 8, .inl (fun _ => 0)))] H := hP
  have hD : va_D A [(h0, .inr (1, (.null :: .null :: .int 0 :: .int 0 :: .int 0 :: .int 0 :: .int 0 :: .ref q1 :: .null :: .null :: .null :: .null :: .null :: .null :: .int 0 :: .int 0 :: .int 0 :: .int 0 :: []))), (q1, .inl (cc1, 8, .inl (fun _ => 0))), (q2, .inl (cc2, 8, .inl (fun _ => 0)))] := hD
  have hK : va_K (dC, dI) vwCl [(cc1, .int), (cc2, .int)] s := hK
  refine W.widen (k := 2) (n := 16) (Nat.le_of_ble_eq_true rfl) (Nat.le_of_ble_eq_true rfl) ?_
  refine va_putF (D := (dC, dI)) (ci := 1) (v := .ref q2) (ty := .array .int) (C := RX1) (T := TX1) (N := 18) hx hb hts wa_X1 tyX1 tyX1_ok nmX1 hown hK hP hD hS 0 rfl rfl 8 (by decide) (hts _ wf_X1_15) (fun _ h9 => h9) rfl hin rfl (by decide +kernel) rfl rfl (Nat.le_of_ble_eq_true rfl) dX1_init_17 (fun H locs hP hD hS => ?_)
  have hP : va_P (dC, dI) vwCl [(h0, .inr (1, (.null :: .null :: .int 0 :: .int 0 :: .int 0 :: .int 0 :: .int 0 :: .ref q1 :: .ref q2 :: .null :: .null :: .null :: .null :: .null :: .int 0 :: .int 0 :: .int 0 :: .int 0 :: []))), (q1, .inl (cc1, 8, .inl (fun _ => 0))), (q2, .inl (cc2, 8, .inl (fun _ => 0)))] H := hP
  have hD : va_D A [(h0, .inr (1, (.null :: .null :: .int 0 :: .int 0 :: .int 0 :: .int 0 :: .int 0 :: .ref q1 :: .ref q2 :: .null :: .null :: .null :: .null :: .null :: .int 0 :: .int 0 :: .int 0 :: .int 0 :: []))), (q1, .inl (cc1, 8, .inl (fun _ => 0))), (q2, .inl (cc2, 8, .inl (fun _ => 0)))] := hD
  refine lv_aload_n hx hb dX1_init_20 rfl (lv_at hl 0 rfl) ?_
  refine lv_bipush (v := 8) hx hb dX1_init_21 (by decide) ?_
  refine va_newa (atype := .int) (a0 := (8, .inl (fun _ => 0))) hx hb (hts _ wa_int) rfl hK hP hD hS hA (fun _ => rfl) (by decide) (by decide) (by decide) (Nat.le_of_ble_eq_true rfl) (Nat.le_of_ble_eq_true rfl) dX1_init_23 (fun q3 cc3 H hK hP hD hS => ?_)
  have hP : va_P (dC, dI) vwCl [(h0, .inr (1, (.null :: .null :: .int 0 :: .int 0 :: .int 0 :: .int 0 :: .int 0 :: .ref q1 :: .ref q2 :: .null :: .null :: .null :: .null :: .null :: .int 0 :: .int 0 :: .int 0 :: .int 0 :: []))), (q1, .inl (cc1, 8, .inl (fun _ => 0))), (q2, .inl (cc2, 8, .inl (fun _ => 0))), (q3, .inl (cc3, 8, .inl (fun _ => 0)))] H := hP
  have hD : va_D A [(h0, .inr (1, (.null :: .null :: .int 0 :: .int 0 :: .int 0 :: .int 0 :: .int 0 :: .ref q1 :: .ref q2 :: .null :: .null :: .null :: .null :: .null :: .int 0 :: .int 0 :: .int 0 :: .int 0 :: []))), (q1, .inl (cc1, 8, .inl (fun _ => 0))), (q2, .inl (cc2, 8, .inl (fun _ => 0))), (q3, .inl (cc3, 8, .inl (fun _ => 0)))] := hD
  have hK : va_K (dC, dI) vwCl [(cc1, .int), (cc2, .int), (cc3, .int)] s := hK
  refine W.widen (k := 3) (n := 24) (Nat.le_of_ble_eq_true rfl) (Nat.le_of_ble_eq_true rfl) ?_
  refine va_putF (D := (dC, dI)) (ci := 1) (v := .ref q3) (ty := .array .int) (C := RX1) (T := TX1) (N := 18) hx hb hts wa_X1 tyX1 tyX1_ok nmX1 hown hK hP hD hS 0 rfl rfl 9 (by decide) (hts _ wf_X1_18) (fun _ h9 => h9) rfl hin rfl (by decide +kernel) rfl rfl (Nat.le_of_ble_eq_true rfl) dX1_init_25 (fun H locs hP hD hS => ?_)
  have hP : va_P (dC, dI) vwCl [(h0, .inr (1, (.null :: .null :: .int 0 :: .int 0 :: .int 0 :: .int 0 :: .int 0 :: .ref q1 :: .ref q2 :: .ref q3 :: .null :: .null :: .null :: .null :: .int 0 :: .int 0 :: .int 0 :: .int 0 :: []))), (q1, .inl (cc1, 8, .inl (fun _ => 0))), (q2, .inl (cc2, 8, .inl (fun _ => 0))), (q3, .inl (cc3, 8, .inl (fun _ => 0)))] H := hP
  have hD : va_D A [(h0, .inr (1, (.null :: .null :: .int 0 :: .int 0 :: .int 0 :: .int 0 :: .int 0 :: .ref q1 :: .ref q2 :: .ref q3 :: .null :: .null :: .null :: .null :: .int 0 :: .int 0 :: .int 0 :: .int 0 :: []))), (q1, .inl (cc1, 8, .inl (fun _ => 0))), (q2, .inl (cc2, 8, .inl (fun _ => 0))), (q3, .inl (cc3, 8, .inl (fun _ => 0)))] := hD
  refine lv_aload_n hx hb dX1_init_28 rfl (lv_at hl 0 rfl) ?_
  refine lv_bipush (v := 8) hx hb dX1_init_29 (by decide) ?_
  refine va_newa (atype := .int) (a0 := (8, .inl (fun _ => 0))) hx hb (hts _ wa_int) rfl hK hP hD hS hA (fun _ => rfl) (by decide) (by decide) (by decide) (Nat.le_of_ble_eq_true rfl) (Nat.le_of_ble_eq_true rfl) dX1_init_31 (fun q4 cc4 H hK hP hD hS => ?_)
  have hP : va_P (dC, dI) vwCl [(h0, .inr (1, (.null :: .null :: .int 0 :: .int 0 :: .int 0 :: .int 0 :: .int 0 :: .ref q1 :: .ref q2 :: .ref q3 :: .null :: .null :: .null :: .null :: .int 0 :: .int 0 :: .int 0 :: .int 0 :: []))), (q1, .inl (cc1, 8, .inl (fun _ => 0))), (q2, .inl (cc2, 8, .inl (fun _ => 0))), (q3, .inl (cc3, 8, .inl (fun _ => 0))), (q4, .inl (cc4, 8, .inl (fun _ => 0)))] H := hP
  have hD : va_D A [(h0, .inr (1, (.null :: .null :: .int 0 :: .int 0 :: .int 0 :: .int 0 :: .int 0 :: .ref q1 :: .ref q2 :: .ref q3 :: .null :: .null :: .null :: .null :: .int 0 :: .int 0 :: .int 0 :: .int 0 :: []))), (q1, .inl (cc1, 8, .inl (fun _ => 0))), (q2, .inl (cc2, 8, .inl (fun _ => 0))), (q3, .inl (cc3, 8, .inl (fun _ => 0))), (q4, .inl (cc4, 8, .inl (fun _ => 0)))] := hD
  have hK : va_K (dC, dI) vwCl [(cc1, .int), (cc2, .int), (cc3, .int), (cc4, .int)] s := hK
  refine W.widen (k := 4) (n := 32) (Nat.le_of_ble_eq_true rfl) (Nat.le_of_ble_eq_true rfl) ?_
  refine va_putF (D := (dC, dI)) (ci := 1) (v := .ref q4) (ty := .array .int) (C := RX1) (T := TX1) (N := 18) hx hb hts wa_X1 tyX1 tyX1_ok nmX1 hown hK hP hD hS 0 rfl rfl 10 (by decide) (hts _ wf_X1_21) (fun _ h9 => h9) rfl hin rfl (by decide +kernel) rfl rfl (Nat.le_of_ble_eq_true rfl) dX1_init_33 (fun H locs hP hD hS => ?_)
  have hP : va_P (dC, dI) vwCl [(h0, .inr (1, (.null :: .null :: .int 0 :: .int 0 :: .int 0 :: .int 0 :: .int 0 :: .ref q1 :: .ref q2 :: .ref q3 :: .ref q4 :: .null :: .null :: .null :: .int 0 :: .int 0 :: .int 0 :: .int 0 :: []))), (q1, .inl (cc1, 8, .inl (fun _ => 0))), (q2, .inl (cc2, 8, .inl (fun _ => 0))), (q3, .inl (cc3, 8, .inl (fun _ => 0))), (q4, .inl (cc4, 8, .inl (fun _ => 0)))] H := hP
  have hD : va_D A [(h0, .inr (1, (.null :: .null :: .int 0 :: .int 0 :: .int 0 :: .int 0 :: .int 0 :: .ref q1 :: .ref q2 :: .ref q3 :: .ref q4 :: .null :: .null :: .null :: .int 0 :: .int 0 :: .int 0 :: .int 0 :: []))), (q1, .inl (cc1, 8, .inl (fun _ => 0))), (q2, .inl (cc2, 8, .inl (fun _ => 0))), (q3, .inl (cc3, 8, .inl (fun _ => 0))), (q4, .inl (cc4, 8, .inl (fun _ => 0)))] := hD
  refine lv_aload_n hx hb dX1_init_36 rfl (lv_at hl 0 rfl) ?_
  refine lv_bipush (v := 8) hx hb dX1_init_37 (by decide) ?_
  refine va_newa (atype := .int) (a0 := (8, .inl (fun _ => 0))) hx hb (hts _ wa_int) rfl hK hP hD hS hA (fun _ => rfl) (by decide) (by decide) (by decide) (Nat.le_of_ble_eq_true rfl) (Nat.le_of_ble_eq_true rfl) dX1_init_39 (fun q5 cc5 H hK hP hD hS => ?_)
  have hP : va_P (dC, dI) vwCl [(h0, .inr (1, (.null :: .null :: .int 0 :: .int 0 :: .int 0 :: .int 0 :: .int 0 :: .ref q1 :: .ref q2 :: .ref q3 :: .ref q4 :: .null :: .null :: .null :: .int 0 :: .int 0 :: .int 0 :: .int 0 :: []))), (q1, .inl (cc1, 8, .inl (fun _ => 0))), (q2, .inl (cc2, 8, .inl (fun _ => 0))), (q3, .inl (cc3, 8, .inl (fun _ => 0))), (q4, .inl (cc4, 8, .inl (fun _ => 0))), (q5, .inl (cc5, 8, .inl (fun _ => 0)))] H := hP
  have hD : va_D A [(h0, .inr (1, (.null :: .null :: .int 0 :: .int 0 :: .int 0 :: .int 0 :: .int 0 :: .ref q1 :: .ref q2 :: .ref q3 :: .ref q4 :: .null :: .null :: .null :: .int 0 :: .int 0 :: .int 0 :: .int 0 :: []))), (q1, .inl (cc1, 8, .inl (fun _ => 0))), (q2, .inl (cc2, 8, .inl (fun _ => 0))), (q3, .inl (cc3, 8, .inl (fun _ => 0))), (q4, .inl (cc4, 8, .inl (fun _ => 0))), (q5, .inl (cc5, 8, .inl (fun _ => 0)))] := hD
  have hK : va_K (dC, dI) vwCl [(cc1, .int), (cc2, .int), (cc3, .int), (cc4, .int), (cc5, .int)] s := hK
  refine W.widen (k := 5) (n := 40) (Nat.le_of_ble_eq_true rfl) (Nat.le_of_ble_eq_true rfl) ?_
  refine va_putF (D := (dC, dI)) (ci := 1) (v := .ref q5) (ty := .array .int) (C := RX1) (T := TX1) (N := 18) hx hb hts wa_X1 tyX1 tyX1_ok nmX1 hown hK hP hD hS 0 rfl rfl 11 (by decide) (hts _ wf_X1_24) (fun _ h9 => h9) rfl hin rfl (by decide +kernel) rfl rfl (Nat.le_of_ble_eq_true rfl) dX1_init_41 (fun H locs hP hD hS => ?_)
  have hP : va_P (dC, dI) vwCl [(h0, .inr (1, (.null :: .null :: .int 0 :: .int 0 :: .int 0 :: .int 0 :: .int 0 :: .ref q1 :: .ref q2 :: .ref q3 :: .ref q4 :: .ref q5 :: .null :: .null :: .int 0 :: .int 0 :: .int 0 :: .int 0 :: []))), (q1, .inl (cc1, 8, .inl (fun _ => 0))), (q2, .inl (cc2, 8, .inl (fun _ => 0))), (q3, .inl (cc3, 8, .inl (fun _ => 0))), (q4, .inl (cc4, 8, .inl (fun _ => 0))), (q5, .inl (cc5, 8, .inl (fun _ => 0)))] H := hP
  have hD : va_D A [(h0, .inr (1, (.null :: .null :: .int 0 :: .int 0 :: .int 0 :: .int 0 :: .int 0 :: .ref q1 :: .ref q2 :: .ref q3 :: .ref q4 :: .ref q5 :: .null :: .null :: .int 0 :: .int 0 :: .int 0 :: .int 0 :: []))), (q1, .inl (cc1, 8, .inl (fun _ => 0))), (q2, .inl (cc2, 8, .inl (fun _ => 0))), (q3, .inl (cc3, 8, .inl (fun _ => 0))), (q4, .inl (cc4, 8, .inl (fun _ => 0))), (q5, .inl (cc5, 8, .inl (fun _ => 0)))] := hD
  refine lv_aload_n hx hb dX1_init_44 rfl (lv_at hl 0 rfl) ?_
  refine lv_bipush (v := 8) hx hb dX1_init_45 (by decide) ?_
  refine va_newa (atype := .int) (a0 := (8, .inl (fun _ => 0))) hx hb (hts _ wa_int) rfl hK hP hD hS hA (fun _ => rfl) (by decide) (by decide) (by decide) (Nat.le_of_ble_eq_true rfl) (Nat.le_of_ble_eq_true rfl) dX1_init_47 (fun q6 cc6 H hK hP hD hS => ?_)
  have hP : va_P (dC, dI) vwCl [(h0, .inr (1, (.null :: .null :: .int 0 :: .int 0 :: .int 0 :: .int 0 :: .int 0 :: .ref q1 :: .ref q2 :: .ref q3 :: .ref q4 :: .ref q5 :: .null :: .null :: .int 0 :: .int 0 :: .int 0 :: .int 0 :: []))), (q1, .inl (cc1, 8, .inl (fun _ => 0))), (q2, .inl (cc2, 8, .inl (fun _ => 0))), (q3, .inl (cc3, 8, .inl (fun _ => 0))), (q4, .inl (cc4, 8, .inl (fun _ => 0))), (q5, .inl (cc5, 8, .inl (fun _ => 0))), (q6, .inl (cc6, 8, .inl (fun _ => 0)))] H := hP
  have hD : va_D A [(h0, .inr (1, (.null :: .null :: .int 0 :: .int 0 :: .int 0 :: .int 0 :: .int 0 :: .ref q1 :: .ref q2 :: .ref q3 :: .ref q4 :: .ref q5 :: .null :: .null :: .int 0 :: .int 0 :: .int 0 :: .int 0 :: []))), (q1, .inl (cc1, 8, .inl (fun _ => 0))), (q2, .inl (cc2, 8, .inl (fun _ => 0))), (q3, .inl (cc3, 8, .inl (fun _ => 0))), (q4, .inl (cc4, 8, .inl (fun _ => 0))), (q5, .inl (cc5, 8, .inl (fun _ => 0))), (q6, .inl (cc6, 8, .inl (fun _ => 0)))] := hD
  have hK : va_K (dC, dI) vwCl [(cc1, .int), (cc2, .int), (cc3, .int), (cc4, .int), (cc5, .int), (cc6, .int)] s := hK
  refine W.widen (k := 6) (n := 48) (Nat.le_of_ble_eq_true rfl) (Nat.le_of_ble_eq_true rfl) ?_
  refine va_putF (D := (dC, dI)) (ci := 1) (v := .ref q6) (ty := .array .int) (C := RX1) (T := TX1) (N := 18) hx hb hts wa_X1 tyX1 tyX1_ok nmX1 hown hK hP hD hS 0 rfl rfl 12 (by decide) (hts _ wf_X1_27) (fun _ h9 => h9) rfl hin rfl (by decide +kernel) rfl rfl (Nat.le_of_ble_eq_true rfl) dX1_init_49 (fun H locs hP hD hS => ?_)
  have hP : va_P (dC, dI) vwCl [(h0, .inr (1, (.null :: .null :: .int 0 :: .int 0 :: .int 0 :: .int 0 :: .int 0 :: .ref q1 :: .ref q2 :: .ref q3 :: .ref q4 :: .ref q5 :: .ref q6 :: .null :: .int 0 :: .int 0 :: .int 0 :: .int 0 :: []))), (q1, .inl (cc1, 8, .inl (fun _ => 0))), (q2, .inl (cc2, 8, .inl (fun _ => 0))), (q3, .inl (cc3, 8, .inl (fun _ => 0))), (q4, .inl (cc4, 8, .inl (fun _ => 0))), (q5, .inl (cc5, 8, .inl (fun _ => 0))), (q6, .inl (cc6, 8, .inl (fun _ => 0)))] H := hP
  have hD : va_D A [(h0, .inr (1, (.null :: .null :: .int 0 :: .int 0 :: .int 0 :: .int 0 :: .int 0 :: .ref q1 :: .ref q2 :: .ref q3 :: .ref q4 :: .ref q5 :: .ref q6 :: .null :: .int 0 :: .int 0 :: .int 0 :: .int 0 :: []))), (q1, .inl (cc1, 8, .inl (fun _ => 0))), (q2, .inl (cc2, 8, .inl (fun _ => 0))), (q3, .inl (cc3, 8, .inl (fun _ => 0))), (q4, .inl (cc4, 8, .inl (fun _ => 0))), (q5, .inl (cc5, 8, .inl (fun _ => 0))), (q6, .inl (cc6, 8, .inl (fun _ => 0)))] := hD
  refine lv_aload_n hx hb dX1_init_52 rfl (lv_at hl 0 rfl) ?_
  refine lv_bipush (v := 8) hx hb dX1_init_53 (by decide) ?_
  refine va_newa (atype := .int) (a0 := (8, .inl (fun _ => 0))) hx hb (hts _ wa_int) rfl hK hP hD hS hA (fun _ => rfl) (by decide) (by decide) (by decide) (Nat.le_of_ble_eq_true rfl) (Nat.le_of_ble_eq_true rfl) dX1_init_55 (fun q7 cc7 H hK hP hD hS => ?_)
  have hP : va_P (dC, dI) vwCl [(h0, .inr (1, (.null :: .null :: .int 0 :: .int 0 :: .int 0 :: .int 0 :: .int 0 :: .ref q1 :: .ref q2 :: .ref q3 :: .ref q4 :: .ref q5 :: .ref q6 :: .null :: .int 0 :: .int 0 :: .int 0 :: .int 0 :: []))), (q1, .inl (cc1, 8, .inl (fun _ => 0))), (q2, .inl (cc2, 8, .inl (fun _ => 0))), (q3, .inl (cc3, 8, .inl (fun _ => 0))), (q4, .inl (cc4, 8, .inl (fun _ => 0))), (q5, .inl (cc5, 8, .inl (fun _ => 0))), (q6, .inl (cc6, 8, .inl (fun _ => 0))), (q7, .inl (cc7, 8, .inl (fun _ => 0)))] H := hP
  have hD : va_D A [(h0, .inr (1, (.null :: .null :: .int 0 :: .int 0 :: .int 0 :: .int 0 :: .int 0 :: .ref q1 :: .ref q2 :: .ref q3 :: .ref q4 :: .ref q5 :: .ref q6 :: .null :: .int 0 :: .int 0 :: .int 0 :: .int 0 :: []))), (q1, .inl (cc1, 8, .inl (fun _ => 0))), (q2, .inl (cc2, 8, .inl (fun _ => 0))), (q3, .inl (cc3, 8, .inl (fun _ => 0))), (q4, .inl (cc4, 8, .inl (fun _ => 0))), (q5, .inl (cc5, 8, .inl (fun _ => 0))), (q6, .inl (cc6, 8, .inl (fun _ => 0))), (q7, .inl (cc7, 8, .inl (fun _ => 0)))] := hD
  have hK : va_K (dC, dI) vwCl [(cc1, .int), (cc2, .int), (cc3, .int), (cc4, .int), (cc5, .int), (cc6, .int), (cc7, .int)] s := hK
  refine W.widen (k := 7) (n := 56) (Nat.le_of_ble_eq_true rfl) (Nat.le_of_ble_eq_true rfl) ?_
  refine va_putF (D := (dC, dI)) (ci := 1) (v := .ref q7) (ty := .array .int) (C := RX1) (T := TX1) (N := 18) hx hb hts wa_X1 tyX1 tyX1_ok nmX1 hown hK hP hD hS 0 rfl rfl 13 (by decide) (hts _ wf_X1_30) (fun _ h9 => h9) rfl hin rfl (by decide +kernel) rfl rfl (Nat.le_of_ble_eq_true rfl) dX1_init_57 (fun H locs hP hD hS => ?_)
  have hP : va_P (dC, dI) vwCl [(h0, .inr (1, (.null :: .null :: .int 0 :: .int 0 :: .int 0 :: .int 0 :: .int 0 :: .ref q1 :: .ref q2 :: .ref q3 :: .ref q4 :: .ref q5 :: .ref q6 :: .ref q7 :: .int 0 :: .int 0 :: .int 0 :: .int 0 :: []))), (q1, .inl (cc1, 8, .inl (fun _ => 0))), (q2, .inl (cc2, 8, .inl (fun _ => 0))), (q3, .inl (cc3, 8, .inl (fun _ => 0))), (q4, .inl (cc4, 8, .inl (fun _ => 0))), (q5, .inl (cc5, 8, .inl (fun _ => 0))), (q6, .inl (cc6, 8, .inl (fun _ => 0))), (q7, .inl (cc7, 8, .inl (fun _ => 0)))] H := hP
  have hD : va_D A [(h0, .inr (1, (.null :: .null :: .int 0 :: .int 0 :: .int 0 :: .int 0 :: .int 0 :: .ref q1 :: .ref q2 :: .ref q3 :: .ref q4 :: .ref q5 :: .ref q6 :: .ref q7 :: .int 0 :: .int 0 :: .int 0 :: .int 0 :: []))), (q1, .inl (cc1, 8, .inl (fun _ => 0))), (q2, .inl (cc2, 8, .inl (fun _ => 0))), (q3, .inl (cc3, 8, .inl (fun _ => 0))), (q4, .inl (cc4, 8, .inl (fun _ => 0))), (q5, .inl (cc5, 8, .inl (fun _ => 0))), (q6, .inl (cc6, 8, .inl (fun _ => 0))), (q7, .inl (cc7, 8, .inl (fun _ => 0)))] := hD
  refine lv_aload_n hx hb dX1_init_60 rfl (lv_at hl 0 rfl) ?_
  refine lv_aload_n hx hb dX1_init_61 rfl (lv_at hl 1 rfl) ?_
  refine va_putF (D := (dC, dI)) (ci := 1) (v := .ref a1) (ty := .object "WingDesk$Wardrobe") (C := RX1) (T := TX1) (N := 18) hx hb hts wa_X1 tyX1 tyX1_ok nmX1 hown hK hP hD hS 0 rfl rfl 0 (by decide) (hts _ wf_X1_33) (fun _ h9 => h9) rfl hin rfl (by decide +kernel) rfl rfl (Nat.le_of_ble_eq_true rfl) dX1_init_62 (fun H locs hP hD hS => ?_)
  have hP : va_P (dC, dI) vwCl [(h0, .inr (1, (.ref a1 :: .null :: .int 0 :: .int 0 :: .int 0 :: .int 0 :: .int 0 :: .ref q1 :: .ref q2 :: .ref q3 :: .ref q4 :: .ref q5 :: .ref q6 :: .ref q7 :: .int 0 :: .int 0 :: .int 0 :: .int 0 :: []))), (q1, .inl (cc1, 8, .inl (fun _ => 0))), (q2, .inl (cc2, 8, .inl (fun _ => 0))), (q3, .inl (cc3, 8, .inl (fun _ => 0))), (q4, .inl (cc4, 8, .inl (fun _ => 0))), (q5, .inl (cc5, 8, .inl (fun _ => 0))), (q6, .inl (cc6, 8, .inl (fun _ => 0))), (q7, .inl (cc7, 8, .inl (fun _ => 0)))] H := hP
  have hD : va_D A [(h0, .inr (1, (.ref a1 :: .null :: .int 0 :: .int 0 :: .int 0 :: .int 0 :: .int 0 :: .ref q1 :: .ref q2 :: .ref q3 :: .ref q4 :: .ref q5 :: .ref q6 :: .ref q7 :: .int 0 :: .int 0 :: .int 0 :: .int 0 :: []))), (q1, .inl (cc1, 8, .inl (fun _ => 0))), (q2, .inl (cc2, 8, .inl (fun _ => 0))), (q3, .inl (cc3, 8, .inl (fun _ => 0))), (q4, .inl (cc4, 8, .inl (fun _ => 0))), (q5, .inl (cc5, 8, .inl (fun _ => 0))), (q6, .inl (cc6, 8, .inl (fun _ => 0))), (q7, .inl (cc7, 8, .inl (fun _ => 0)))] := hD
  refine lv_aload_n hx hb dX1_init_65 rfl (lv_at hl 0 rfl) ?_
  refine lv_aload_n hx hb dX1_init_66 rfl (lv_at hl 2 rfl) ?_
  refine va_putF (D := (dC, dI)) (ci := 1) (v := .ref a2) (ty := .object "WingDesk$Looks") (C := RX1) (T := TX1) (N := 18) hx hb hts wa_X1 tyX1 tyX1_ok nmX1 hown hK hP hD hS 0 rfl rfl 1 (by decide) (hts _ wf_X1_37) (fun _ h9 => h9) rfl hin rfl (by decide +kernel) rfl rfl (Nat.le_of_ble_eq_true rfl) dX1_init_67 (fun H locs hP hD hS => ?_)
  have hP : va_P (dC, dI) vwCl [(h0, .inr (1, (.ref a1 :: .ref a2 :: .int 0 :: .int 0 :: .int 0 :: .int 0 :: .int 0 :: .ref q1 :: .ref q2 :: .ref q3 :: .ref q4 :: .ref q5 :: .ref q6 :: .ref q7 :: .int 0 :: .int 0 :: .int 0 :: .int 0 :: []))), (q1, .inl (cc1, 8, .inl (fun _ => 0))), (q2, .inl (cc2, 8, .inl (fun _ => 0))), (q3, .inl (cc3, 8, .inl (fun _ => 0))), (q4, .inl (cc4, 8, .inl (fun _ => 0))), (q5, .inl (cc5, 8, .inl (fun _ => 0))), (q6, .inl (cc6, 8, .inl (fun _ => 0))), (q7, .inl (cc7, 8, .inl (fun _ => 0)))] H := hP
  have hD : va_D A [(h0, .inr (1, (.ref a1 :: .ref a2 :: .int 0 :: .int 0 :: .int 0 :: .int 0 :: .int 0 :: .ref q1 :: .ref q2 :: .ref q3 :: .ref q4 :: .ref q5 :: .ref q6 :: .ref q7 :: .int 0 :: .int 0 :: .int 0 :: .int 0 :: []))), (q1, .inl (cc1, 8, .inl (fun _ => 0))), (q2, .inl (cc2, 8, .inl (fun _ => 0))), (q3, .inl (cc3, 8, .inl (fun _ => 0))), (q4, .inl (cc4, 8, .inl (fun _ => 0))), (q5, .inl (cc5, 8, .inl (fun _ => 0))), (q6, .inl (cc6, 8, .inl (fun _ => 0))), (q7, .inl (cc7, 8, .inl (fun _ => 0)))] := hD
  subst hAe
  exact W.vret hx hb hr (fun t ht hW => ⟨⟨(fun k => [q1, q2, q3, q4, q5, q6, q7].getD k 0, fun k => [cc1, cc2, cc3, cc4, cc5, cc6, cc7].getD k 0), rfl, trivial, by show va_P _ _ _ t.heap; rw [ht]; exact hP, va_K.moved hW.alike hK, hD⟩, hS.F ht⟩) hS.2.2 dX1_init_70
theorem dX4_init_0 : decode cX4_init 0 = .ok (.aload_n 0, 1) := by decide +kernel
theorem dX4_init_1 : decode cX4_init 1 = .ok (.invokespecial 3, 3) := by decide +kernel
theorem dX4_init_4 : decode cX4_init 4 = .ok (.aload_n 0, 1) := by decide +kernel
theorem dX4_init_5 : decode cX4_init 5 = .ok (.bipush 12, 2) := by decide +kernel
theorem dX4_init_7 : decode cX4_init 7 = .ok (.newarray .int, 2) := by decide +kernel
theorem dX4_init_9 : decode cX4_init 9 = .ok (.putfield 9, 3) := by decide +kernel
theorem dX4_init_12 : decode cX4_init 12 = .ok (.aload_n 0, 1) := by decide +kernel
theorem dX4_init_13 : decode cX4_init 13 = .ok (.bipush 12, 2) := by decide +kernel
theorem dX4_init_15 : decode cX4_init 15 = .ok (.newarray .int, 2) := by decide +kernel
theorem dX4_init_17 : decode cX4_init 17 = .ok (.putfield 15, 3) := by decide +kernel
theorem dX4_init_20 : decode cX4_init 20 = .ok (.aload_n 0, 1) := by decide +kernel
theorem dX4_init_21 : decode cX4_init 21 = .ok (.bipush 12, 2) := by decide +kernel
theorem dX4_init_23 : decode cX4_init 23 = .ok (.newarray .int, 2) := by decide +kernel
theorem dX4_init_25 : decode cX4_init 25 = .ok (.putfield 18, 3) := by decide +kernel
theorem dX4_init_28 : decode cX4_init 28 = .ok (.aload_n 0, 1) := by decide +kernel
theorem dX4_init_29 : decode cX4_init 29 = .ok (.bipush 12, 2) := by decide +kernel
theorem dX4_init_31 : decode cX4_init 31 = .ok (.newarray .int, 2) := by decide +kernel
theorem dX4_init_33 : decode cX4_init 33 = .ok (.putfield 21, 3) := by decide +kernel
theorem dX4_init_36 : decode cX4_init 36 = .ok (.aload_n 0, 1) := by decide +kernel
theorem dX4_init_37 : decode cX4_init 37 = .ok (.bipush 36, 2) := by decide +kernel
theorem dX4_init_39 : decode cX4_init 39 = .ok (.newarray .int, 2) := by decide +kernel
theorem dX4_init_41 : decode cX4_init 41 = .ok (.putfield 24, 3) := by decide +kernel
theorem dX4_init_44 : decode cX4_init 44 = .ok (.return_, 1) := by decide +kernel
def lw_X4 (h0 : Nat) (v : (Nat → Nat) × (Nat → ClassId)) : va_W := [(h0, .inr (4, [.ref (v.1 0), .ref (v.1 1), .ref (v.1 2), .ref (v.1 3), .ref (v.1 4), .int 0])), ((v.1 0), .inl ((v.2 0), 12, .inl (fun _ => 0))), ((v.1 1), .inl ((v.2 1), 12, .inl (fun _ => 0))), ((v.1 2), .inl ((v.2 2), 12, .inl (fun _ => 0))), ((v.1 3), .inl ((v.2 3), 12, .inl (fun _ => 0))), ((v.1 4), .inl ((v.2 4), 36, .inl (fun _ => 0)))]
def lt_X4 (v : (Nat → Nat) × (Nat → ClassId)) : List (ClassId × FieldType) := [((v.2 0), .int), ((v.2 1), .int), ((v.2 2), .int), ((v.2 3), .int), ((v.2 4), .int)]
set_option maxRecDepth 100000 in
set_option maxHeartbeats 4000000 in
theorem ci_X4 (l : Launch) (dC : Nat → ClassId) (dI : Nat → Nat → Nat) (h0 sz : Nat) : Met l yX4_init (Cond.code yX4_init cX4_init 1 none :: gtbl) (({ frames := 1, cells := 5, slots := 84, locals := 12 }) : Room) (va_Pc [.ref h0] (fun U => U.heap.size = sz ∧ va_P (dC, dI) vwCl [(h0, .inr (4, [.null, .null, .null, .null, .null, .int 0]))] U.heap ∧ va_K (dC, dI) vwCl [] U ∧ va_D (fun _ => True) [(h0, .inr (4, [.null, .null, .null, .null, .null, .int 0]))])) (va_Qv (fun v : (Nat → Nat) × (Nat → ClassId) => True) (fun v t => va_P (dC, dI) vwCl (lw_X4 h0 v) t.heap ∧ va_K (dC, dI) vwCl (lt_X4 v) t ∧ va_D (va_A [(h0, .inr (4, [.null, .null, .null, .null, .null, .int 0]))] sz) (lw_X4 h0 v)) (va_A [(h0, .inr (4, [.null, .null, .null, .null, .null, .int 0]))] sz)) 5 84 (va_A [(h0, .inr (4, [.null, .null, .null, .null, .null, .int 0]))] sz) := by
  refine Met.ofW (cc := cX4_init) (maxL := 1) (ret := none) (by decide +kernel) rfl ?_
  intro p e s m args below meth c s₁ B hml hv
  obtain ⟨rfl, hsz, hP, hK, hD0⟩ := hv
  have hx := B.exec
  have hb := B.bytes
  have hr := B.returns
  have hts : ∀ w ∈ gtbl, w.before _ s = true := fun w h => atoms_spec (ws := Cond.code yX4_init cX4_init 1 none :: gtbl) B.pre w (List.mem_cons_of_mem _ h)
  have hown : s.vm.findClass RX4 = some m.cls := findClass_of_methodNamed B.named
  have hlocks := B.notSynchronized
  have hin : meth.name = "<init>" := (name_of_methodNamed B.named B.method).1
  subst hsz
  have hD := hD0.self (sz := s.heap.size)
  generalize hAe : va_A [(h0, .inr (4, [.null, .null, .null, .null, .null, .int 0]))] s.heap.size = A at hD ⊢
  have hA : ∀ q : Nat, s.heap.size ≤ q → A q := fun q h => by rw [← hAe]; exact Or.inr h
  have hS : va_S A s.heap s.heap [] := va_S.rf
  have hP : va_P (dC, dI) vwCl [(h0, .inr (4, [.null, .null, .null, .null, .null, .int 0]))] s.heap := hP
  have hl := lv_entry ([.ref h0]) (n := 1) (Nat.le_of_ble_eq_true rfl)
  rw [lg_entry_eq]
  generalize (lg_sl ([.ref h0]) ++ List.replicate (1 - (lg_sl ([.ref h0])).length) Slot.unset).toArray = ls at hl ⊢
  have hl : lv_has ls 1 [(0, .ref h0)] := hl
  refine lv_aload_n hx hb dX4_init_0 rfl (lv_at hl 0 rfl) ?_
  refine W.objInit hx hb hown (hts _ wm_X4_3) (hts _ wn_obj) (hts _ wk_obj) rfl (by rw [hml]; exact hl.1) rfl dX4_init_1 (Nat.le_of_ble_eq_true rfl) (Nat.le_of_ble_eq_true rfl) ?_
  refine W.eq (g2 := F0 m 4 ls []) rfl ?_
  refine lv_aload_n hx hb dX4_init_4 rfl (lv_at hl 0 rfl) ?_
  refine lv_bipush (v := 12) hx hb dX4_init_5 (by decide) ?_
  refine va_newa (atype := .int) (a0 := (12, .inl (fun _ => 0))) hx hb (hts _ wa_int) rfl hK hP hD hS hA (fun _ => rfl) (by decide) (by decide) (by decide) (Nat.le_of_ble_eq_true rfl) (Nat.le_of_ble_eq_true rfl) dX4_init_7 (fun q1 cc1 H hK hP hD hS => ?_)
  have hP : va_P (dC, dI) vwCl [(h0, .inr (4, [.null, .null, .null, .null, .null, .int 0])), (q1, .inl (cc1, 12, .inl (fun _ => 0)))] H := hP
  have hD : va_D A [(h0, .inr (4, [.null, .null, .null, .null, .null, .int 0])), (q1, .inl (cc1, 12, .inl (fun _ => 0)))] := hD
  have hK : va_K (dC, dI) vwCl [(cc1, .int)] s := hK
  refine W.widen (k := 1) (n := 12) (Nat.le_of_ble_eq_true rfl) (Nat.le_of_ble_eq_true rfl) ?_
  refine va_putF (D := (dC, dI)) (ci := 4) (v := .ref q1) (ty := .array .int) (C := RX4) (T := TX4) (N := 6) hx hb hts wa_X4 tyX4 tyX4_ok nmX4 hown hK hP hD hS 0 rfl rfl 0 (by decide) (hts _ wf_X4_9) (fun _ h9 => h9) rfl hin rfl (by decide +kernel) rfl rfl (Nat.le_of_ble_eq_true rfl) dX4_init_9 (fun H locs hP hD hS => ?_)
  have hP : va_P (dC, dI) vwCl [(h0, .inr (4, [.ref q1, .null, .null, .null, .null, .int 0])), (q1, .inl (cc1, 12, .inl (fun _ => 0)))] H := hP
  have hD : va_D A [(h0, .inr (4, [.ref q1, .null, .null, .null, .null, .int 0])), (q1, .inl (cc1, 12, .inl (fun _ => 0)))] := hD
  refine lv_aload_n hx hb dX4_init_12 rfl (lv_at hl 0 rfl) ?_
  refine lv_bipush (v := 12) hx hb dX4_init_13 (by decide) ?_
  refine va_newa (atype := .int) (a0 := (12, .inl (fun _ => 0))) hx hb (hts _ wa_int) rfl hK hP hD hS hA (fun _ => rfl) (by decide) (by decide) (by decide) (Nat.le_of_ble_eq_true rfl) (Nat.le_of_ble_eq_true rfl) dX4_init_15 (fun q2 cc2 H hK hP hD hS => ?_)
  have hP : va_P (dC, dI) vwCl [(h0, .inr (4, [.ref q1, .null, .null, .null, .null, .int 0])), (q1, .inl (cc1, 12, .inl (fun _ => 0))), (q2, .inl (cc2, 12, .inl (fun _ => 0)))] H := hP
  have hD : va_D A [(h0, .inr (4, [.ref q1, .null, .null, .null, .null, .int 0])), (q1, .inl (cc1, 12, .inl (fun _ => 0))), (q2, .inl (cc2, 12, .inl (fun _ => 0)))] := hD
  have hK : va_K (dC, dI) vwCl [(cc1, .int), (cc2, .int)] s := hK
  refine W.widen (k := 2) (n := 24) (Nat.le_of_ble_eq_true rfl) (Nat.le_of_ble_eq_true rfl) ?_
  refine va_putF (D := (dC, dI)) (ci := 4) (v := .ref q2) (ty := .array .int) (C := RX4) (T := TX4) (N := 6) hx hb hts wa_X4 tyX4 tyX4_ok nmX4 hown hK hP hD hS 0 rfl rfl 1 (by decide) (hts _ wf_X4_15) (fun _ h9 => h9) rfl hin rfl (by decide +kernel) rfl rfl (Nat.le_of_ble_eq_true rfl) dX4_init_17 (fun H locs hP hD hS => ?_)
  have hP : va_P (dC, dI) vwCl [(h0, .inr (4, [.ref q1, .ref q2, .null, .null, .null, .int 0])), (q1, .inl (cc1, 12, .inl (fun _ => 0))), (q2, .inl (cc2, 12, .inl (fun _ => 0)))] H := hP
  have hD : va_D A [(h0, .inr (4, [.ref q1, .ref q2, .null, .null, .null, .int 0])), (q1, .inl (cc1, 12, .inl (fun _ => 0))), (q2, .inl (cc2, 12, .inl (fun _ => 0)))] := hD
  refine lv_aload_n hx hb dX4_init_20 rfl (lv_at hl 0 rfl) ?_
  refine lv_bipush (v := 12) hx hb dX4_init_21 (by decide) ?_
  refine va_newa (atype := .int) (a0 := (12, .inl (fun _ => 0))) hx hb (hts _ wa_int) rfl hK hP hD hS hA (fun _ => rfl) (by decide) (by decide) (by decide) (Nat.le_of_ble_eq_true rfl) (Nat.le_of_ble_eq_true rfl) dX4_init_23 (fun q3 cc3 H hK hP hD hS => ?_)
  have hP : va_P (dC, dI) vwCl [(h0, .inr (4, [.ref q1, .ref q2, .null, .null, .null, .int 0])), (q1, .inl (cc1, 12, .inl (fun _ => 0))), (q2, .inl (cc2, 12, .inl (fun _ => 0))), (q3, .inl (cc3, 12, .inl (fun _ => 0)))] H := hP
  have hD : va_D A [(h0, .inr (4, [.ref q1, .ref q2, .null, .null, .null, .int 0])), (q1, .inl (cc1, 12, .inl (fun _ => 0))), (q2, .inl (cc2, 12, .inl (fun _ => 0))), (q3, .inl (cc3, 12, .inl (fun _ => 0)))] := hD
  have hK : va_K (dC, dI) vwCl [(cc1, .int), (cc2, .int), (cc3, .int)] s := hK
  refine W.widen (k := 3) (n := 36) (Nat.le_of_ble_eq_true rfl) (Nat.le_of_ble_eq_true rfl) ?_
  refine va_putF (D := (dC, dI)) (ci := 4) (v := .ref q3) (ty := .array .int) (C := RX4) (T := TX4) (N := 6) hx hb hts wa_X4 tyX4 tyX4_ok nmX4 hown hK hP hD hS 0 rfl rfl 2 (by decide) (hts _ wf_X4_18) (fun _ h9 => h9) rfl hin rfl (by decide +kernel) rfl rfl (Nat.le_of_ble_eq_true rfl) dX4_init_25 (fun H locs hP hD hS => ?_)
  have hP : va_P (dC, dI) vwCl [(h0, .inr (4, [.ref q1, .ref q2, .ref q3, .null, .null, .int 0])), (q1, .inl (cc1, 12, .inl (fun _ => 0))), (q2, .inl (cc2, 12, .inl (fun _ => 0))), (q3, .inl (cc3, 12, .inl (fun _ => 0)))] H := hP
  have hD : va_D A [(h0, .inr (4, [.ref q1, .ref q2, .ref q3, .null, .null, .int 0])), (q1, .inl (cc1, 12, .inl (fun _ => 0))), (q2, .inl (cc2, 12, .inl (fun _ => 0))), (q3, .inl (cc3, 12, .inl (fun _ => 0)))] := hD
  refine lv_aload_n hx hb dX4_init_28 rfl (lv_at hl 0 rfl) ?_
  refine lv_bipush (v := 12) hx hb dX4_init_29 (by decide) ?_
  refine va_newa (atype := .int) (a0 := (12, .inl (fun _ => 0))) hx hb (hts _ wa_int) rfl hK hP hD hS hA (fun _ => rfl) (by decide) (by decide) (by decide) (Nat.le_of_ble_eq_true rfl) (Nat.le_of_ble_eq_true rfl) dX4_init_31 (fun q4 cc4 H hK hP hD hS => ?_)
  have hP : va_P (dC, dI) vwCl [(h0, .inr (4, [.ref q1, .ref q2, .ref q3, .null, .null, .int 0])), (q1, .inl (cc1, 12, .inl (fun _ => 0))), (q2, .inl (cc2, 12, .inl (fun _ => 0))), (q3, .inl (cc3, 12, .inl (fun _ => 0))), (q4, .inl (cc4, 12, .inl (fun _ => 0)))] H := hP
  have hD : va_D A [(h0, .inr (4, [.ref q1, .ref q2, .ref q3, .null, .null, .int 0])), (q1, .inl (cc1, 12, .inl (fun _ => 0))), (q2, .inl (cc2, 12, .inl (fun _ => 0))), (q3, .inl (cc3, 12, .inl (fun _ => 0))), (q4, .inl (cc4, 12, .inl (fun _ => 0)))] := hD
  have hK : va_K (dC, dI) vwCl [(cc1, .int), (cc2, .int), (cc3, .int), (cc4, .int)] s := hK
  refine W.widen (k := 4) (n := 48) (Nat.le_of_ble_eq_true rfl) (Nat.le_of_ble_eq_true rfl) ?_
  refine va_putF (D := (dC, dI)) (ci := 4) (v := .ref q4) (ty := .array .int) (C := RX4) (T := TX4) (N := 6) hx hb hts wa_X4 tyX4 tyX4_ok nmX4 hown hK hP hD hS 0 rfl rfl 3 (by decide) (hts _ wf_X4_21) (fun _ h9 => h9) rfl hin rfl (by decide +kernel) rfl rfl (Nat.le_of_ble_eq_true rfl) dX4_init_33 (fun H locs hP hD hS => ?_)
  have hP : va_P (dC, dI) vwCl [(h0, .inr (4, [.ref q1, .ref q2, .ref q3, .ref q4, .null, .int 0])), (q1, .inl (cc1, 12, .inl (fun _ => 0))), (q2, .inl (cc2, 12, .inl (fun _ => 0))), (q3, .inl (cc3, 12, .inl (fun _ => 0))), (q4, .inl (cc4, 12, .inl (fun _ => 0)))] H := hP
  have hD : va_D A [(h0, .inr (4, [.ref q1, .ref q2, .ref q3, .ref q4, .null, .int 0])), (q1, .inl (cc1, 12, .inl (fun _ => 0))), (q2, .inl (cc2, 12, .inl (fun _ => 0))), (q3, .inl (cc3, 12, .inl (fun _ => 0))), (q4, .inl (cc4, 12, .inl (fun _ => 0)))] := hD
  refine lv_aload_n hx hb dX4_init_36 rfl (lv_at hl 0 rfl) ?_
  refine lv_bipush (v := 36) hx hb dX4_init_37 (by decide) ?_
  refine va_newa (atype := .int) (a0 := (36, .inl (fun _ => 0))) hx hb (hts _ wa_int) rfl hK hP hD hS hA (fun _ => rfl) (by decide) (by decide) (by decide) (Nat.le_of_ble_eq_true rfl) (Nat.le_of_ble_eq_true rfl) dX4_init_39 (fun q5 cc5 H hK hP hD hS => ?_)
  have hP : va_P (dC, dI) vwCl [(h0, .inr (4, [.ref q1, .ref q2, .ref q3, .ref q4, .null, .int 0])), (q1, .inl (cc1, 12, .inl (fun _ => 0))), (q2, .inl (cc2, 12, .inl (fun _ => 0))), (q3, .inl (cc3, 12, .inl (fun _ => 0))), (q4, .inl (cc4, 12, .inl (fun _ => 0))), (q5, .inl (cc5, 36, .inl (fun _ => 0)))] H := hP
  have hD : va_D A [(h0, .inr (4, [.ref q1, .ref q2, .ref q3, .ref q4, .null, .int 0])), (q1, .inl (cc1, 12, .inl (fun _ => 0))), (q2, .inl (cc2, 12, .inl (fun _ => 0))), (q3, .inl (cc3, 12, .inl (fun _ => 0))), (q4, .inl (cc4, 12, .inl (fun _ => 0))), (q5, .inl (cc5, 36, .inl (fun _ => 0)))] := hD
  have hK : va_K (dC, dI) vwCl [(cc1, .int), (cc2, .int), (cc3, .int), (cc4, .int), (cc5, .int)] s := hK
  refine W.widen (k := 5) (n := 84) (Nat.le_of_ble_eq_true rfl) (Nat.le_of_ble_eq_true rfl) ?_
  refine va_putF (D := (dC, dI)) (ci := 4) (v := .ref q5) (ty := .array .int) (C := RX4) (T := TX4) (N := 6) hx hb hts wa_X4 tyX4 tyX4_ok nmX4 hown hK hP hD hS 0 rfl rfl 4 (by decide) (hts _ wf_X4_24) (fun _ h9 => h9) rfl hin rfl (by decide +kernel) rfl rfl (Nat.le_of_ble_eq_true rfl) dX4_init_41 (fun H locs hP hD hS => ?_)
  have hP : va_P (dC, dI) vwCl [(h0, .inr (4, [.ref q1, .ref q2, .ref q3, .ref q4, .ref q5, .int 0])), (q1, .inl (cc1, 12, .inl (fun _ => 0))), (q2, .inl (cc2, 12, .inl (fun _ => 0))), (q3, .inl (cc3, 12, .inl (fun _ => 0))), (q4, .inl (cc4, 12, .inl (fun _ => 0))), (q5, .inl (cc5, 36, .inl (fun _ => 0)))] H := hP
  have hD : va_D A [(h0, .inr (4, [.ref q1, .ref q2, .ref q3, .ref q4, .ref q5, .int 0])), (q1, .inl (cc1, 12, .inl (fun _ => 0))), (q2, .inl (cc2, 12, .inl (fun _ => 0))), (q3, .inl (cc3, 12, .inl (fun _ => 0))), (q4, .inl (cc4, 12, .inl (fun _ => 0))), (q5, .inl (cc5, 36, .inl (fun _ => 0)))] := hD
  subst hAe
  exact W.vret hx hb hr (fun t ht hW => ⟨⟨(fun k => [q1, q2, q3, q4, q5].getD k 0, fun k => [cc1, cc2, cc3, cc4, cc5].getD k 0), rfl, trivial, by show va_P _ _ _ t.heap; rw [ht]; exact hP, va_K.moved hW.alike hK, hD⟩, hS.F ht⟩) hS.2.2 dX4_init_44
theorem dX3_init_0 : decode cX3_init 0 = .ok (.aload_n 0, 1) := by decide +kernel
theorem dX3_init_1 : decode cX3_init 1 = .ok (.invokespecial 3, 3) := by decide +kernel
theorem dX3_init_4 : decode cX3_init 4 = .ok (.aload_n 0, 1) := by decide +kernel
theorem dX3_init_5 : decode cX3_init 5 = .ok (.bipush 12, 2) := by decide +kernel
theorem dX3_init_7 : decode cX3_init 7 = .ok (.newarray .int, 2) := by decide +kernel
theorem dX3_init_9 : decode cX3_init 9 = .ok (.putfield 9, 3) := by decide +kernel
theorem dX3_init_12 : decode cX3_init 12 = .ok (.aload_n 0, 1) := by decide +kernel
theorem dX3_init_13 : decode cX3_init 13 = .ok (.sipush 144, 3) := by decide +kernel
theorem dX3_init_16 : decode cX3_init 16 = .ok (.newarray .int, 2) := by decide +kernel
theorem dX3_init_18 : decode cX3_init 18 = .ok (.putfield 15, 3) := by decide +kernel
theorem dX3_init_21 : decode cX3_init 21 = .ok (.aload_n 0, 1) := by decide +kernel
theorem dX3_init_22 : decode cX3_init 22 = .ok (.bipush 12, 2) := by decide +kernel
theorem dX3_init_24 : decode cX3_init 24 = .ok (.newarray .int, 2) := by decide +kernel
theorem dX3_init_26 : decode cX3_init 26 = .ok (.putfield 18, 3) := by decide +kernel
theorem dX3_init_29 : decode cX3_init 29 = .ok (.aload_n 0, 1) := by decide +kernel
theorem dX3_init_30 : decode cX3_init 30 = .ok (.bipush 12, 2) := by decide +kernel
theorem dX3_init_32 : decode cX3_init 32 = .ok (.newarray .int, 2) := by decide +kernel
theorem dX3_init_34 : decode cX3_init 34 = .ok (.putfield 21, 3) := by decide +kernel
theorem dX3_init_37 : decode cX3_init 37 = .ok (.aload_n 0, 1) := by decide +kernel
theorem dX3_init_38 : decode cX3_init 38 = .ok (.bipush 12, 2) := by decide +kernel
theorem dX3_init_40 : decode cX3_init 40 = .ok (.newarray .int, 2) := by decide +kernel
theorem dX3_init_42 : decode cX3_init 42 = .ok (.putfield 24, 3) := by decide +kernel
theorem dX3_init_45 : decode cX3_init 45 = .ok (.aload_n 0, 1) := by decide +kernel
theorem dX3_init_46 : decode cX3_init 46 = .ok (.aload_n 1, 1) := by decide +kernel
theorem dX3_init_47 : decode cX3_init 47 = .ok (.putfield 27, 3) := by decide +kernel
theorem dX3_init_50 : decode cX3_init 50 = .ok (.return_, 1) := by decide +kernel
def lw_X3 (h0 a1 : Nat) (v : (Nat → Nat) × (Nat → ClassId)) : va_W := [(h0, .inr (3, [.ref a1, .ref (v.1 0), .ref (v.1 1), .ref (v.1 2), .ref (v.1 3), .ref (v.1 4), .int 0])), ((v.1 0), .inl ((v.2 0), 12, .inl (fun _ => 0))), ((v.1 1), .inl ((v.2 1), 144, .inl (fun _ => 0))), ((v.1 2), .inl ((v.2 2), 12, .inl (fun _ => 0))), ((v.1 3), .inl ((v.2 3), 12, .inl (fun _ => 0))), ((v.1 4), .inl ((v.2 4), 12, .inl (fun _ => 0)))]
def lt_X3 (v : (Nat → Nat) × (Nat → ClassId)) : List (ClassId × FieldType) := [((v.2 0), .int), ((v.2 1), .int), ((v.2 2), .int), ((v.2 3), .int), ((v.2 4), .int)]
set_option maxRecDepth 100000 in
set_option maxHeartbeats 4000000 in
theorem ci_X3 (l : Launch) (dC : Nat → ClassId) (dI : Nat → Nat → Nat) (h0 a1 sz : Nat) : Met l yX3_init (Cond.code yX3_init cX3_init 2 none :: gtbl) (({ frames := 1, cells := 5, slots := 192, locals := 12 }) : Room) (va_Pc [.ref h0, .ref a1] (fun U => U.heap.size = sz ∧ va_P (dC, dI) vwCl [(h0, .inr (3, [.null, .null, .null, .null, .null, .null, .int 0]))] U.heap ∧ va_K (dC, dI) vwCl [] U ∧ va_D (fun _ => True) [(h0, .inr (3, [.null, .null, .null, .null, .null, .null, .int 0]))])) (va_Qv (fun v : (Nat → Nat) × (Nat → ClassId) => True) (fun v t => va_P (dC, dI) vwCl (lw_X3 h0 a1 v) t.heap ∧ va_K (dC, dI) vwCl (lt_X3 v) t ∧ va_D (va_A [(h0, .inr (3, [.null, .null, .null, .null, .null, .null, .int 0]))] sz) (lw_X3 h0 a1 v)) (va_A [(h0, .inr (3, [.null, .null, .null, .null, .null, .null, .int 0]))] sz)) 5 192 (va_A [(h0, .inr (3, [.null, .null, .null, .null, .null, .null, .int 0]))] sz) := by
  refine Met.ofW (cc := cX3_init) (maxL := 2) (ret := none) (by decide +kernel) rfl ?_
  intro p e s m args below meth c s₁ B hml hv
  obtain ⟨rfl, hsz, hP, hK, hD0⟩ := hv
  have hx := B.exec
  have hb := B.bytes
  have hr := B.returns
  have hts : ∀ w ∈ gtbl, w.before _ s = true := fun w h => atoms_spec (ws := Cond.code yX3_init cX3_init 2 none :: gtbl) B.pre w (List.mem_cons_of_mem _ h)
  have hown : s.vm.findClass RX3 = some m.cls := findClass_of_methodNamed B.named
  have hlocks := B.notSynchronized
  have hin : meth.name = "<init>" := (name_of_methodNamed B.named B.method).1
  subst hsz
  have hD := hD0.self (sz := s.heap.size)
  generalize hAe : va_A [(h0, .inr (3, [.null, .null, .null, .null, .null, .null, .int 0]))] s.heap.size = A at hD ⊢
  have hA : ∀ q : Nat, s.heap.size ≤ q → A q := fun q h => by rw [← hAe]; exact Or.inr h
  have hS : va_S A s.heap s.heap [] := va_S.rf
  have hP : va_P (dC, dI) vwCl [(h0, .inr (3, [.null, .null, .null, .null, .null, .null, .int 0]))] s.heap := hP
  have hl := lv_entry ([.ref h0, .ref a1]) (n := 2) (Nat.le_of_ble_eq_true rfl)
  rw [lg_entry_eq]
  generalize (lg_sl ([.ref h0, .ref a1]) ++ List.replicate (2 - (lg_sl ([.ref h0, .ref a1])).length) Slot.unset).toArray = ls at hl ⊢
  have hl : lv_has ls 2 [(0, .ref h0), (1, .ref a1)] := hl
  refine lv_aload_n hx hb dX3_init_0 rfl (lv_at hl 0 rfl) ?_
  refine W.objInit hx hb hown (hts _ wm_X3_3) (hts _ wn_obj) (hts _ wk_obj) rfl (by rw [hml]; exact hl.1) rfl dX3_init_1 (Nat.le_of_ble_eq_true rfl) (Nat.le_of_ble_eq_true rfl) ?_
  refine W.eq (g2 := F0 m 4 ls []) rfl ?_
  refine lv_aload_n hx hb dX3_init_4 rfl (lv_at hl 0 rfl) ?_
  refine lv_bipush (v := 12) hx hb dX3_init_5 (by decide) ?_
  refine va_newa (atype := .int) (a0 := (12, .inl (fun _ => 0))) hx hb (hts _ wa_int) rfl hK hP hD hS hA (fun _ => rfl) (by decide) (by decide) (by decide) (Nat.le_of_ble_eq_true rfl) (Nat.le_of_ble_eq_true rfl) dX3_init_7 (fun q1 cc1 H hK hP hD hS => ?_)
  have hP : va_P (dC, dI) vwCl [(h0, .inr (3, [.null, .null, .null, .null, .null, .null, .int 0])), (q1, .inl (cc1, 12, .inl (fun _ => 0)))] H := hP
  have hD : va_D A [(h0, .inr (3, [.null, .null, .null, .null, .null, .null, .int 0])), (q1, .inl (cc1, 12, .inl (fun _ => 0)))] := hD
  have hK : va_K (dC, dI) vwCl [(cc1, .int)] s := hK
  refine W.widen (k := 1) (n := 12) (Nat.le_of_ble_eq_true rfl) (Nat.le_of_ble_eq_true rfl) ?_
  refine va_putF (D := (dC, dI)) (ci := 3) (v := .ref q1) (ty := .array .int) (C := RX3) (T := TX3) (N := 7) hx hb hts wa_X3 tyX3 tyX3_ok nmX3 hown hK hP hD hS 0 rfl rfl 1 (by decide) (hts _ wf_X3_9) (fun _ h9 => h9) rfl hin rfl (by decide +kernel) rfl rfl (Nat.le_of_ble_eq_true rfl) dX3_init_9 (fun H locs hP hD hS => ?_)
  have hP : va_P (dC, dI) vwCl [(h0, .inr (3, [.null, .ref q1, .null, .null, .null, .null, .int 0])), (q1, .inl (cc1, 12, .inl (fun _ => 0)))] H := hP
  have hD : va_D A [(h0, .inr (3, [.null, .ref q1, .null, .null, .null, .null, .int 0])), (q1, .inl (cc1, 12, .inl (fun _ => 0)))] := hD
  refine lv_aload_n hx hb dX3_init_12 rfl (lv_at hl 0 rfl) ?_
  refine lv_sipush (v := 144) hx hb dX3_init_13 (by decide) ?_
  refine va_newa (atype := .int) (a0 := (144, .inl (fun _ => 0))) hx hb (hts _ wa_int) rfl hK hP hD hS hA (fun _ => rfl) (by decide) (by decide) (by decide) (Nat.le_of_ble_eq_true rfl) (Nat.le_of_ble_eq_true rfl) dX3_init_16 (fun q2 cc2 H hK hP hD hS => ?_)
  have hP : va_P (dC, dI) vwCl [(h0, .inr (3, [.null, .ref q1, .null, .null, .null, .null, .int 0])), (q1, .inl (cc1, 12, .inl (fun _ => 0))), (q2, .inl (cc2, 144, .inl (fun _ => 0)))] H := hP
  have hD : va_D A [(h0, .inr (3, [.null, .ref q1, .null, .null, .null, .null, .int 0])), (q1, .inl (cc1, 12, .inl (fun _ => 0))), (q2, .inl (cc2, 144, .inl (fun _ => 0)))] := hD
  have hK : va_K (dC, dI) vwCl [(cc1, .int), (cc2, .int)] s := hK
  refine W.widen (k := 2) (n := 156) (Nat.le_of_ble_eq_true rfl) (Nat.le_of_ble_eq_true rfl) ?_
  refine va_putF (D := (dC, dI)) (ci := 3) (v := .ref q2) (ty := .array .int) (C := RX3) (T := TX3) (N := 7) hx hb hts wa_X3 tyX3 tyX3_ok nmX3 hown hK hP hD hS 0 rfl rfl 2 (by decide) (hts _ wf_X3_15) (fun _ h9 => h9) rfl hin rfl (by decide +kernel) rfl rfl (Nat.le_of_ble_eq_true rfl) dX3_init_18 (fun H locs hP hD hS => ?_)
  have hP : va_P (dC, dI) vwCl [(h0, .inr (3, [.null, .ref q1, .ref q2, .null, .null, .null, .int 0])), (q1, .inl (cc1, 12, .inl (fun _ => 0))), (q2, .inl (cc2, 144, .inl (fun _ => 0)))] H := hP
  have hD : va_D A [(h0, .inr (3, [.null, .ref q1, .ref q2, .null, .null, .null, .int 0])), (q1, .inl (cc1, 12, .inl (fun _ => 0))), (q2, .inl (cc2, 144, .inl (fun _ => 0)))] := hD
  refine lv_aload_n hx hb dX3_init_21 rfl (lv_at hl 0 rfl) ?_
  refine lv_bipush (v := 12) hx hb dX3_init_22 (by decide) ?_
  refine va_newa (atype := .int) (a0 := (12, .inl (fun _ => 0))) hx hb (hts _ wa_int) rfl hK hP hD hS hA (fun _ => rfl) (by decide) (by decide) (by decide) (Nat.le_of_ble_eq_true rfl) (Nat.le_of_ble_eq_true rfl) dX3_init_24 (fun q3 cc3 H hK hP hD hS => ?_)
  have hP : va_P (dC, dI) vwCl [(h0, .inr (3, [.null, .ref q1, .ref q2, .null, .null, .null, .int 0])), (q1, .inl (cc1, 12, .inl (fun _ => 0))), (q2, .inl (cc2, 144, .inl (fun _ => 0))), (q3, .inl (cc3, 12, .inl (fun _ => 0)))] H := hP
  have hD : va_D A [(h0, .inr (3, [.null, .ref q1, .ref q2, .null, .null, .null, .int 0])), (q1, .inl (cc1, 12, .inl (fun _ => 0))), (q2, .inl (cc2, 144, .inl (fun _ => 0))), (q3, .inl (cc3, 12, .inl (fun _ => 0)))] := hD
  have hK : va_K (dC, dI) vwCl [(cc1, .int), (cc2, .int), (cc3, .int)] s := hK
  refine W.widen (k := 3) (n := 168) (Nat.le_of_ble_eq_true rfl) (Nat.le_of_ble_eq_true rfl) ?_
  refine va_putF (D := (dC, dI)) (ci := 3) (v := .ref q3) (ty := .array .int) (C := RX3) (T := TX3) (N := 7) hx hb hts wa_X3 tyX3 tyX3_ok nmX3 hown hK hP hD hS 0 rfl rfl 3 (by decide) (hts _ wf_X3_18) (fun _ h9 => h9) rfl hin rfl (by decide +kernel) rfl rfl (Nat.le_of_ble_eq_true rfl) dX3_init_26 (fun H locs hP hD hS => ?_)
  have hP : va_P (dC, dI) vwCl [(h0, .inr (3, [.null, .ref q1, .ref q2, .ref q3, .null, .null, .int 0])), (q1, .inl (cc1, 12, .inl (fun _ => 0))), (q2, .inl (cc2, 144, .inl (fun _ => 0))), (q3, .inl (cc3, 12, .inl (fun _ => 0)))] H := hP
  have hD : va_D A [(h0, .inr (3, [.null, .ref q1, .ref q2, .ref q3, .null, .null, .int 0])), (q1, .inl (cc1, 12, .inl (fun _ => 0))), (q2, .inl (cc2, 144, .inl (fun _ => 0))), (q3, .inl (cc3, 12, .inl (fun _ => 0)))] := hD
  refine lv_aload_n hx hb dX3_init_29 rfl (lv_at hl 0 rfl) ?_
  refine lv_bipush (v := 12) hx hb dX3_init_30 (by decide) ?_
  refine va_newa (atype := .int) (a0 := (12, .inl (fun _ => 0))) hx hb (hts _ wa_int) rfl hK hP hD hS hA (fun _ => rfl) (by decide) (by decide) (by decide) (Nat.le_of_ble_eq_true rfl) (Nat.le_of_ble_eq_true rfl) dX3_init_32 (fun q4 cc4 H hK hP hD hS => ?_)
  have hP : va_P (dC, dI) vwCl [(h0, .inr (3, [.null, .ref q1, .ref q2, .ref q3, .null, .null, .int 0])), (q1, .inl (cc1, 12, .inl (fun _ => 0))), (q2, .inl (cc2, 144, .inl (fun _ => 0))), (q3, .inl (cc3, 12, .inl (fun _ => 0))), (q4, .inl (cc4, 12, .inl (fun _ => 0)))] H := hP
  have hD : va_D A [(h0, .inr (3, [.null, .ref q1, .ref q2, .ref q3, .null, .null, .int 0])), (q1, .inl (cc1, 12, .inl (fun _ => 0))), (q2, .inl (cc2, 144, .inl (fun _ => 0))), (q3, .inl (cc3, 12, .inl (fun _ => 0))), (q4, .inl (cc4, 12, .inl (fun _ => 0)))] := hD
  have hK : va_K (dC, dI) vwCl [(cc1, .int), (cc2, .int), (cc3, .int), (cc4, .int)] s := hK
  refine W.widen (k := 4) (n := 180) (Nat.le_of_ble_eq_true rfl) (Nat.le_of_ble_eq_true rfl) ?_
  refine va_putF (D := (dC, dI)) (ci := 3) (v := .ref q4) (ty := .array .int) (C := RX3) (T := TX3) (N := 7) hx hb hts wa_X3 tyX3 tyX3_ok nmX3 hown hK hP hD hS 0 rfl rfl 4 (by decide) (hts _ wf_X3_21) (fun _ h9 => h9) rfl hin rfl (by decide +kernel) rfl rfl (Nat.le_of_ble_eq_true rfl) dX3_init_34 (fun H locs hP hD hS => ?_)
  have hP : va_P (dC, dI) vwCl [(h0, .inr (3, [.null, .ref q1, .ref q2, .ref q3, .ref q4, .null, .int 0])), (q1, .inl (cc1, 12, .inl (fun _ => 0))), (q2, .inl (cc2, 144, .inl (fun _ => 0))), (q3, .inl (cc3, 12, .inl (fun _ => 0))), (q4, .inl (cc4, 12, .inl (fun _ => 0)))] H := hP
  have hD : va_D A [(h0, .inr (3, [.null, .ref q1, .ref q2, .ref q3, .ref q4, .null, .int 0])), (q1, .inl (cc1, 12, .inl (fun _ => 0))), (q2, .inl (cc2, 144, .inl (fun _ => 0))), (q3, .inl (cc3, 12, .inl (fun _ => 0))), (q4, .inl (cc4, 12, .inl (fun _ => 0)))] := hD
  refine lv_aload_n hx hb dX3_init_37 rfl (lv_at hl 0 rfl) ?_
  refine lv_bipush (v := 12) hx hb dX3_init_38 (by decide) ?_
  refine va_newa (atype := .int) (a0 := (12, .inl (fun _ => 0))) hx hb (hts _ wa_int) rfl hK hP hD hS hA (fun _ => rfl) (by decide) (by decide) (by decide) (Nat.le_of_ble_eq_true rfl) (Nat.le_of_ble_eq_true rfl) dX3_init_40 (fun q5 cc5 H hK hP hD hS => ?_)
  have hP : va_P (dC, dI) vwCl [(h0, .inr (3, [.null, .ref q1, .ref q2, .ref q3, .ref q4, .null, .int 0])), (q1, .inl (cc1, 12, .inl (fun _ => 0))), (q2, .inl (cc2, 144, .inl (fun _ => 0))), (q3, .inl (cc3, 12, .inl (fun _ => 0))), (q4, .inl (cc4, 12, .inl (fun _ => 0))), (q5, .inl (cc5, 12, .inl (fun _ => 0)))] H := hP
  have hD : va_D A [(h0, .inr (3, [.null, .ref q1, .ref q2, .ref q3, .ref q4, .null, .int 0])), (q1, .inl (cc1, 12, .inl (fun _ => 0))), (q2, .inl (cc2, 144, .inl (fun _ => 0))), (q3, .inl (cc3, 12, .inl (fun _ => 0))), (q4, .inl (cc4, 12, .inl (fun _ => 0))), (q5, .inl (cc5, 12, .inl (fun _ => 0)))] := hD
  have hK : va_K (dC, dI) vwCl [(cc1, .int), (cc2, .int), (cc3, .int), (cc4, .int), (cc5, .int)] s := hK
  refine W.widen (k := 5) (n := 192) (Nat.le_of_ble_eq_true rfl) (Nat.le_of_ble_eq_true rfl) ?_
  refine va_putF (D := (dC, dI)) (ci := 3) (v := .ref q5) (ty := .array .int) (C := RX3) (T := TX3) (N := 7) hx hb hts wa_X3 tyX3 tyX3_ok nmX3 hown hK hP hD hS 0 rfl rfl 5 (by decide) (hts _ wf_X3_24) (fun _ h9 => h9) rfl hin rfl (by decide +kernel) rfl rfl (Nat.le_of_ble_eq_true rfl) dX3_init_42 (fun H locs hP hD hS => ?_)
  have hP : va_P (dC, dI) vwCl [(h0, .inr (3, [.null, .ref q1, .ref q2, .ref q3, .ref q4, .ref q5, .int 0])), (q1, .inl (cc1, 12, .inl (fun _ => 0))), (q2, .inl (cc2, 144, .inl (fun _ => 0))), (q3, .inl (cc3, 12, .inl (fun _ => 0))), (q4, .inl (cc4, 12, .inl (fun _ => 0))), (q5, .inl (cc5, 12, .inl (fun _ => 0)))] H := hP
  have hD : va_D A [(h0, .inr (3, [.null, .ref q1, .ref q2, .ref q3, .ref q4, .ref q5, .int 0])), (q1, .inl (cc1, 12, .inl (fun _ => 0))), (q2, .inl (cc2, 144, .inl (fun _ => 0))), (q3, .inl (cc3, 12, .inl (fun _ => 0))), (q4, .inl (cc4, 12, .inl (fun _ => 0))), (q5, .inl (cc5, 12, .inl (fun _ => 0)))] := hD
  refine lv_aload_n hx hb dX3_init_45 rfl (lv_at hl 0 rfl) ?_
  refine lv_aload_n hx hb dX3_init_46 rfl (lv_at hl 1 rfl) ?_
  refine va_putF (D := (dC, dI)) (ci := 3) (v := .ref a1) (ty := .object "WingDesk$Show") (C := RX3) (T := TX3) (N := 7) hx hb hts wa_X3 tyX3 tyX3_ok nmX3 hown hK hP hD hS 0 rfl rfl 0 (by decide) (hts _ wf_X3_27) (fun _ h9 => h9) rfl hin rfl (by decide +kernel) rfl rfl (Nat.le_of_ble_eq_true rfl) dX3_init_47 (fun H locs hP hD hS => ?_)
  have hP : va_P (dC, dI) vwCl [(h0, .inr (3, [.ref a1, .ref q1, .ref q2, .ref q3, .ref q4, .ref q5, .int 0])), (q1, .inl (cc1, 12, .inl (fun _ => 0))), (q2, .inl (cc2, 144, .inl (fun _ => 0))), (q3, .inl (cc3, 12, .inl (fun _ => 0))), (q4, .inl (cc4, 12, .inl (fun _ => 0))), (q5, .inl (cc5, 12, .inl (fun _ => 0)))] H := hP
  have hD : va_D A [(h0, .inr (3, [.ref a1, .ref q1, .ref q2, .ref q3, .ref q4, .ref q5, .int 0])), (q1, .inl (cc1, 12, .inl (fun _ => 0))), (q2, .inl (cc2, 144, .inl (fun _ => 0))), (q3, .inl (cc3, 12, .inl (fun _ => 0))), (q4, .inl (cc4, 12, .inl (fun _ => 0))), (q5, .inl (cc5, 12, .inl (fun _ => 0)))] := hD
  subst hAe
  exact W.vret hx hb hr (fun t ht hW => ⟨⟨(fun k => [q1, q2, q3, q4, q5].getD k 0, fun k => [cc1, cc2, cc3, cc4, cc5].getD k 0), rfl, trivial, by show va_P _ _ _ t.heap; rw [ht]; exact hP, va_K.moved hW.alike hK, hD⟩, hS.F ht⟩) hS.2.2 dX3_init_50
theorem dX0_init_0 : decode cX0_init 0 = .ok (.aload_n 0, 1) := by decide +kernel
theorem dX0_init_1 : decode cX0_init 1 = .ok (.invokespecial 3, 3) := by decide +kernel
theorem dX0_init_4 : decode cX0_init 4 = .ok (.aload_n 0, 1) := by decide +kernel
theorem dX0_init_5 : decode cX0_init 5 = .ok (.bipush 32, 2) := by decide +kernel
theorem dX0_init_7 : decode cX0_init 7 = .ok (.newarray .int, 2) := by decide +kernel
theorem dX0_init_9 : decode cX0_init 9 = .ok (.putfield 9, 3) := by decide +kernel
theorem dX0_init_12 : decode cX0_init 12 = .ok (.aload_n 0, 1) := by decide +kernel
theorem dX0_init_13 : decode cX0_init 13 = .ok (.aload_n 1, 1) := by decide +kernel
theorem dX0_init_14 : decode cX0_init 14 = .ok (.putfield 15, 3) := by decide +kernel
theorem dX0_init_17 : decode cX0_init 17 = .ok (.return_, 1) := by decide +kernel
def lw_X0 (h0 a1 : Nat) (v : (Nat → Nat) × (Nat → ClassId)) : va_W := [(h0, .inr (0, [.ref a1, .ref (v.1 0), .int 0])), ((v.1 0), .inl ((v.2 0), 32, .inl (fun _ => 0)))]
def lt_X0 (v : (Nat → Nat) × (Nat → ClassId)) : List (ClassId × FieldType) := [((v.2 0), .int)]
set_option maxRecDepth 100000 in
set_option maxHeartbeats 4000000 in
theorem ci_X0 (l : Launch) (dC : Nat → ClassId) (dI : Nat → Nat → Nat) (h0 a1 sz : Nat) : Met l yX0_init (Cond.code yX0_init cX0_init 2 none :: gtbl) (({ frames := 1, cells := 1, slots := 32, locals := 12 }) : Room) (va_Pc [.ref h0, .ref a1] (fun U => U.heap.size = sz ∧ va_P (dC, dI) vwCl [(h0, .inr (0, [.null, .null, .int 0]))] U.heap ∧ va_K (dC, dI) vwCl [] U ∧ va_D (fun _ => True) [(h0, .inr (0, [.null, .null, .int 0]))])) (va_Qv (fun v : (Nat → Nat) × (Nat → ClassId) => True) (fun v t => va_P (dC, dI) vwCl (lw_X0 h0 a1 v) t.heap ∧ va_K (dC, dI) vwCl (lt_X0 v) t ∧ va_D (va_A [(h0, .inr (0, [.null, .null, .int 0]))] sz) (lw_X0 h0 a1 v)) (va_A [(h0, .inr (0, [.null, .null, .int 0]))] sz)) 1 32 (va_A [(h0, .inr (0, [.null, .null, .int 0]))] sz) := by
  refine Met.ofW (cc := cX0_init) (maxL := 2) (ret := none) (by decide +kernel) rfl ?_
  intro p e s m args below meth c s₁ B hml hv
  obtain ⟨rfl, hsz, hP, hK, hD0⟩ := hv
  have hx := B.exec
  have hb := B.bytes
  have hr := B.returns
  have hts : ∀ w ∈ gtbl, w.before _ s = true := fun w h => atoms_spec (ws := Cond.code yX0_init cX0_init 2 none :: gtbl) B.pre w (List.mem_cons_of_mem _ h)
  have hown : s.vm.findClass RX0 = some m.cls := findClass_of_methodNamed B.named
  have hlocks := B.notSynchronized
  have hin : meth.name = "<init>" := (name_of_methodNamed B.named B.method).1
  subst hsz
  have hD := hD0.self (sz := s.heap.size)
  generalize hAe : va_A [(h0, .inr (0, [.null, .null, .int 0]))] s.heap.size = A at hD ⊢
  have hA : ∀ q : Nat, s.heap.size ≤ q → A q := fun q h => by rw [← hAe]; exact Or.inr h
  have hS : va_S A s.heap s.heap [] := va_S.rf
  have hP : va_P (dC, dI) vwCl [(h0, .inr (0, [.null, .null, .int 0]))] s.heap := hP
  have hl := lv_entry ([.ref h0, .ref a1]) (n := 2) (Nat.le_of_ble_eq_true rfl)
  rw [lg_entry_eq]
  generalize (lg_sl ([.ref h0, .ref a1]) ++ List.replicate (2 - (lg_sl ([.ref h0, .ref a1])).length) Slot.unset).toArray = ls at hl ⊢
  have hl : lv_has ls 2 [(0, .ref h0), (1, .ref a1)] := hl
  refine lv_aload_n hx hb dX0_init_0 rfl (lv_at hl 0 rfl) ?_
  refine W.objInit hx hb hown (hts _ wm_X0_3) (hts _ wn_obj) (hts _ wk_obj) rfl (by rw [hml]; exact hl.1) rfl dX0_init_1 (Nat.le_of_ble_eq_true rfl) (Nat.le_of_ble_eq_true rfl) ?_
  refine W.eq (g2 := F0 m 4 ls []) rfl ?_
  refine lv_aload_n hx hb dX0_init_4 rfl (lv_at hl 0 rfl) ?_
  refine lv_bipush (v := 32) hx hb dX0_init_5 (by decide) ?_
  refine va_newa (atype := .int) (a0 := (32, .inl (fun _ => 0))) hx hb (hts _ wa_int) rfl hK hP hD hS hA (fun _ => rfl) (by decide) (by decide) (by decide) (Nat.le_of_ble_eq_true rfl) (Nat.le_of_ble_eq_true rfl) dX0_init_7 (fun q1 cc1 H hK hP hD hS => ?_)
  have hP : va_P (dC, dI) vwCl [(h0, .inr (0, [.null, .null, .int 0])), (q1, .inl (cc1, 32, .inl (fun _ => 0)))] H := hP
  have hD : va_D A [(h0, .inr (0, [.null, .null, .int 0])), (q1, .inl (cc1, 32, .inl (fun _ => 0)))] := hD
  have hK : va_K (dC, dI) vwCl [(cc1, .int)] s := hK
  refine W.widen (k := 1) (n := 32) (Nat.le_of_ble_eq_true rfl) (Nat.le_of_ble_eq_true rfl) ?_
  refine va_putF (D := (dC, dI)) (ci := 0) (v := .ref q1) (ty := .array .int) (C := RX0) (T := TX0) (N := 3) hx hb hts wa_X0 tyX0 tyX0_ok nmX0 hown hK hP hD hS 0 rfl rfl 1 (by decide) (hts _ wf_X0_9) (fun _ h9 => h9) rfl hin rfl (by decide +kernel) rfl rfl (Nat.le_of_ble_eq_true rfl) dX0_init_9 (fun H locs hP hD hS => ?_)
  have hP : va_P (dC, dI) vwCl [(h0, .inr (0, [.null, .ref q1, .int 0])), (q1, .inl (cc1, 32, .inl (fun _ => 0)))] H := hP
  have hD : va_D A [(h0, .inr (0, [.null, .ref q1, .int 0])), (q1, .inl (cc1, 32, .inl (fun _ => 0)))] := hD
  refine lv_aload_n hx hb dX0_init_12 rfl (lv_at hl 0 rfl) ?_
  refine lv_aload_n hx hb dX0_init_13 rfl (lv_at hl 1 rfl) ?_
  refine va_putF (D := (dC, dI)) (ci := 0) (v := .ref a1) (ty := .object "WingDesk$Wardrobe") (C := RX0) (T := TX0) (N := 3) hx hb hts wa_X0 tyX0 tyX0_ok nmX0 hown hK hP hD hS 0 rfl rfl 0 (by decide) (hts _ wf_X0_15) (fun _ h9 => h9) rfl hin rfl (by decide +kernel) rfl rfl (Nat.le_of_ble_eq_true rfl) dX0_init_14 (fun H locs hP hD hS => ?_)
  have hP : va_P (dC, dI) vwCl [(h0, .inr (0, [.ref a1, .ref q1, .int 0])), (q1, .inl (cc1, 32, .inl (fun _ => 0)))] H := hP
  have hD : va_D A [(h0, .inr (0, [.ref a1, .ref q1, .int 0])), (q1, .inl (cc1, 32, .inl (fun _ => 0)))] := hD
  subst hAe
  exact W.vret hx hb hr (fun t ht hW => ⟨⟨(fun k => [q1].getD k 0, fun k => [cc1].getD k 0), rfl, trivial, by show va_P _ _ _ t.heap; rw [ht]; exact hP, va_K.moved hW.alike hK, hD⟩, hS.F ht⟩) hS.2.2 dX0_init_17
