theorem dX6_init_0 : decode cX6_init 0 = .ok (.aload_n 0, 1) := by decide +kernel
theorem dX6_init_1 : decode cX6_init 1 = .ok (.invokespecial 1, 3) := by decide +kernel
theorem dX6_init_4 : decode cX6_init 4 = .ok (.aload_n 0, 1) := by decide +kernel
theorem dX6_init_5 : decode cX6_init 5 = .ok (.new 7, 3) := by decide +kernel
theorem dX6_init_8 : decode cX6_init 8 = .ok (.dup, 1) := by decide +kernel
theorem dX6_init_9 : decode cX6_init 9 = .ok (.invokespecial 9, 3) := by decide +kernel
theorem dX6_init_12 : decode cX6_init 12 = .ok (.putfield 10, 3) := by decide +kernel
theorem dX6_init_15 : decode cX6_init 15 = .ok (.aload_n 0, 1) := by decide +kernel
theorem dX6_init_16 : decode cX6_init 16 = .ok (.new 16, 3) := by decide +kernel
theorem dX6_init_19 : decode cX6_init 19 = .ok (.dup, 1) := by decide +kernel
theorem dX6_init_20 : decode cX6_init 20 = .ok (.invokespecial 18, 3) := by decide +kernel
theorem dX6_init_23 : decode cX6_init 23 = .ok (.putfield 19, 3) := by decide +kernel
theorem dX6_init_26 : decode cX6_init 26 = .ok (.aload_n 0, 1) := by decide +kernel
theorem dX6_init_27 : decode cX6_init 27 = .ok (.new 23, 3) := by decide +kernel
theorem dX6_init_30 : decode cX6_init 30 = .ok (.dup, 1) := by decide +kernel
theorem dX6_init_31 : decode cX6_init 31 = .ok (.aload_n 0, 1) := by decide +kernel
theorem dX6_init_32 : decode cX6_init 32 = .ok (.getfield 10, 3) := by decide +kernel
theorem dX6_init_35 : decode cX6_init 35 = .ok (.aload_n 0, 1) := by decide +kernel
theorem dX6_init_36 : decode cX6_init 36 = .ok (.getfield 19, 3) := by decide +kernel
theorem dX6_init_39 : decode cX6_init 39 = .ok (.invokespecial 25, 3) := by decide +kernel
theorem dX6_init_42 : decode cX6_init 42 = .ok (.putfield 28, 3) := by decide +kernel
theorem dX6_init_45 : decode cX6_init 45 = .ok (.aload_n 0, 1) := by decide +kernel
theorem dX6_init_46 : decode cX6_init 46 = .ok (.new 32, 3) := by decide +kernel
theorem dX6_init_49 : decode cX6_init 49 = .ok (.dup, 1) := by decide +kernel
theorem dX6_init_50 : decode cX6_init 50 = .ok (.invokespecial 34, 3) := by decide +kernel
theorem dX6_init_53 : decode cX6_init 53 = .ok (.putfield 35, 3) := by decide +kernel
theorem dX6_init_56 : decode cX6_init 56 = .ok (.aload_n 0, 1) := by decide +kernel
theorem dX6_init_57 : decode cX6_init 57 = .ok (.new 39, 3) := by decide +kernel
theorem dX6_init_60 : decode cX6_init 60 = .ok (.dup, 1) := by decide +kernel
theorem dX6_init_61 : decode cX6_init 61 = .ok (.aload_n 0, 1) := by decide +kernel
theorem dX6_init_62 : decode cX6_init 62 = .ok (.getfield 35, 3) := by decide +kernel
theorem dX6_init_65 : decode cX6_init 65 = .ok (.invokespecial 41, 3) := by decide +kernel
theorem dX6_init_68 : decode cX6_init 68 = .ok (.putfield 44, 3) := by decide +kernel
theorem dX6_init_71 : decode cX6_init 71 = .ok (.aload_n 0, 1) := by decide +kernel
theorem dX6_init_72 : decode cX6_init 72 = .ok (.new 48, 3) := by decide +kernel
theorem dX6_init_75 : decode cX6_init 75 = .ok (.dup, 1) := by decide +kernel
theorem dX6_init_76 : decode cX6_init 76 = .ok (.aload_n 0, 1) := by decide +kernel
theorem dX6_init_77 : decode cX6_init 77 = .ok (.getfield 10, 3) := by decide +kernel
theorem dX6_init_80 : decode cX6_init 80 = .ok (.invokespecial 50, 3) := by decide +kernel
theorem dX6_init_83 : decode cX6_init 83 = .ok (.putfield 53, 3) := by decide +kernel
theorem dX6_init_86 : decode cX6_init 86 = .ok (.aload_n 0, 1) := by decide +kernel
theorem dX6_init_87 : decode cX6_init 87 = .ok (.bipush 30, 2) := by decide +kernel
theorem dX6_init_89 : decode cX6_init 89 = .ok (.newarray .int, 2) := by decide +kernel
theorem dX6_init_91 : decode cX6_init 91 = .ok (.putfield 57, 3) := by decide +kernel
theorem dX6_init_94 : decode cX6_init 94 = .ok (.aload_n 0, 1) := by decide +kernel
theorem dX6_init_95 : decode cX6_init 95 = .ok (.bipush 6, 2) := by decide +kernel
theorem dX6_init_97 : decode cX6_init 97 = .ok (.newarray .int, 2) := by decide +kernel
theorem dX6_init_99 : decode cX6_init 99 = .ok (.putfield 61, 3) := by decide +kernel
theorem dX6_init_102 : decode cX6_init 102 = .ok (.aload_n 0, 1) := by decide +kernel
theorem dX6_init_103 : decode cX6_init 103 = .ok (.bipush 8, 2) := by decide +kernel
theorem dX6_init_105 : decode cX6_init 105 = .ok (.putfield 64, 3) := by decide +kernel
theorem dX6_init_108 : decode cX6_init 108 = .ok (.return_, 1) := by decide +kernel
set_option maxRecDepth 100000 in
set_option maxHeartbeats 4000000 in
theorem eq_X (h0 q1 q2 q3 q4 q5 q6 q7 q8 cc7 cc8 : Nat) (v1 v2 v3 v4 v5 v6 : (Nat → Nat) × (Nat → ClassId)) : wld shX (fun k => ((h0 :: q1 :: v1.1 0 :: q2 :: v2.1 0 :: v2.1 1 :: v2.1 2 :: q3 :: v3.1 0 :: v3.1 1 :: v3.1 2 :: v3.1 3 :: v3.1 4 :: v3.1 5 :: v3.1 6 :: q4 :: v4.1 0 :: v4.1 1 :: v4.1 2 :: v4.1 3 :: v4.1 4 :: q5 :: v5.1 0 :: v5.1 1 :: v5.1 2 :: v5.1 3 :: v5.1 4 :: q6 :: v6.1 0 :: q7 :: q8 :: []) : List Nat).getD k 0) (fun k => ((0 :: 0 :: v1.2 0 :: 0 :: v2.2 0 :: v2.2 1 :: v2.2 2 :: 0 :: v3.2 0 :: v3.2 1 :: v3.2 2 :: v3.2 3 :: v3.2 4 :: v3.2 5 :: v3.2 6 :: 0 :: v4.2 0 :: v4.2 1 :: v4.2 2 :: v4.2 3 :: v4.2 4 :: 0 :: v5.2 0 :: v5.2 1 :: v5.2 2 :: v5.2 3 :: v5.2 4 :: 0 :: v6.2 0 :: cc7 :: cc8 :: []) : List Nat).getD k 0) s0X = ((h0, .inr (6, (.ref (q1) :: .ref (q2) :: .ref (q3) :: .ref (q4) :: .ref (q5) :: .ref (q6) :: .ref (q7) :: .ref (q8) :: .int 0 :: .int 8 :: []))) :: (q1, .inr (5, [.ref (v1.1 0), .int 0, .int 0])) :: (v1.1 0, .inl (v1.2 0, 320, .inl (fun _ => 0))) :: (q2, .inr (2, [.ref (v2.1 0), .ref (v2.1 1), .ref (v2.1 2)])) :: (v2.1 0, .inl (v2.2 0, 96, .inl (fun _ => 0))) :: (v2.1 1, .inl (v2.2 1, 12, .inl (fun _ => 0))) :: (v2.1 2, .inl (v2.2 2, 32, .inl (fun _ => 0))) :: (q3, .inr (1, (.ref (q1) :: .ref (q2) :: .int 0 :: .int 0 :: .int 0 :: .int 0 :: .int 0 :: .ref (v3.1 0) :: .ref (v3.1 1) :: .ref (v3.1 2) :: .ref (v3.1 3) :: .ref (v3.1 4) :: .ref (v3.1 5) :: .ref (v3.1 6) :: .int 0 :: .int 0 :: .int 0 :: .int 0 :: []))) :: (v3.1 0, .inl (v3.2 0, 8, .inl (fun _ => 0))) :: (v3.1 1, .inl (v3.2 1, 8, .inl (fun _ => 0))) :: (v3.1 2, .inl (v3.2 2, 8, .inl (fun _ => 0))) :: (v3.1 3, .inl (v3.2 3, 8, .inl (fun _ => 0))) :: (v3.1 4, .inl (v3.2 4, 8, .inl (fun _ => 0))) :: (v3.1 5, .inl (v3.2 5, 8, .inl (fun _ => 0))) :: (v3.1 6, .inl (v3.2 6, 8, .inl (fun _ => 0))) :: (q4, .inr (4, [.ref (v4.1 0), .ref (v4.1 1), .ref (v4.1 2), .ref (v4.1 3), .ref (v4.1 4), .int 0])) :: (v4.1 0, .inl (v4.2 0, 12, .inl (fun _ => 0))) :: (v4.1 1, .inl (v4.2 1, 12, .inl (fun _ => 0))) :: (v4.1 2, .inl (v4.2 2, 12, .inl (fun _ => 0))) :: (v4.1 3, .inl (v4.2 3, 12, .inl (fun _ => 0))) :: (v4.1 4, .inl (v4.2 4, 36, .inl (fun _ => 0))) :: (q5, .inr (3, [.ref (q4), .ref (v5.1 0), .ref (v5.1 1), .ref (v5.1 2), .ref (v5.1 3), .ref (v5.1 4), .int 0])) :: (v5.1 0, .inl (v5.2 0, 12, .inl (fun _ => 0))) :: (v5.1 1, .inl (v5.2 1, 144, .inl (fun _ => 0))) :: (v5.1 2, .inl (v5.2 2, 12, .inl (fun _ => 0))) :: (v5.1 3, .inl (v5.2 3, 12, .inl (fun _ => 0))) :: (v5.1 4, .inl (v5.2 4, 12, .inl (fun _ => 0))) :: (q6, .inr (0, [.ref (q1), .ref (v6.1 0), .int 0])) :: (v6.1 0, .inl (v6.2 0, 32, .inl (fun _ => 0))) :: (q7, .inl (cc7, 30, .inl (fun _ => 0))) :: (q8, .inl (cc8, 6, .inl (fun _ => 0))) :: []) := by simp [wld, shX, wlf, cel, fldv, s0X]
set_option maxRecDepth 100000 in
set_option maxHeartbeats 4000000 in
theorem et_X (cc7 cc8 : Nat) (v1 v2 v3 v4 v5 v6 : (Nat → Nat) × (Nat → ClassId)) : tys shX (fun k => ((0 :: 0 :: v1.2 0 :: 0 :: v2.2 0 :: v2.2 1 :: v2.2 2 :: 0 :: v3.2 0 :: v3.2 1 :: v3.2 2 :: v3.2 3 :: v3.2 4 :: v3.2 5 :: v3.2 6 :: 0 :: v4.2 0 :: v4.2 1 :: v4.2 2 :: v4.2 3 :: v4.2 4 :: 0 :: v5.2 0 :: v5.2 1 :: v5.2 2 :: v5.2 3 :: v5.2 4 :: 0 :: v6.2 0 :: cc7 :: cc8 :: []) : List Nat).getD k 0) = ((v1.2 0, .int) :: (v2.2 0, .int) :: (v2.2 1, .int) :: (v2.2 2, .int) :: (v3.2 0, .int) :: (v3.2 1, .int) :: (v3.2 2, .int) :: (v3.2 3, .int) :: (v3.2 4, .int) :: (v3.2 5, .int) :: (v3.2 6, .int) :: (v4.2 0, .int) :: (v4.2 1, .int) :: (v4.2 2, .int) :: (v4.2 3, .int) :: (v4.2 4, .int) :: (v5.2 0, .int) :: (v5.2 1, .int) :: (v5.2 2, .int) :: (v5.2 3, .int) :: (v5.2 4, .int) :: (v6.2 0, .int) :: (cc7, .int) :: (cc8, .int) :: []) := by simp [tys, shX, tyf]
def rmi_X6 : Room := { frames := 2, cells := 30, slots := 900, locals := 34 }
set_option maxRecDepth 100000 in
set_option maxHeartbeats 4000000 in
theorem ci_X6 (l : Launch) (dC : Nat → ClassId) (dI : Nat → Nat → Nat) (h0 sz : Nat) : Met l yX6_init (Cond.code yX6_init cX6_init 1 none :: gtbl) (rmi_X6 : Room) (va_Pc [.ref h0] (fun U => U.heap.size = sz ∧ va_P (dC, dI) vwCl [(h0, .inr (6, (.null :: .null :: .null :: .null :: .null :: .null :: .null :: .null :: .int 0 :: .int 0 :: [])))] U.heap ∧ va_K (dC, dI) vwCl [] U ∧ va_D (fun _ => True) [(h0, .inr (6, (.null :: .null :: .null :: .null :: .null :: .null :: .null :: .null :: .int 0 :: .int 0 :: [])))] ∧ ∀ w ∈ nst, va_Nw w U)) (va_Qv (fun v : (Nat → Nat) × (Nat → ClassId) => v.1 0 = h0) (fun v t => va_P (dC, dI) vwCl (wld shX v.1 v.2 s0X) t.heap ∧ va_K (dC, dI) vwCl (tys shX v.2) t ∧ va_D (va_A [(h0, .inr (6, (.null :: .null :: .null :: .null :: .null :: .null :: .null :: .null :: .int 0 :: .int 0 :: [])))] sz) (wld shX v.1 v.2 s0X)) (va_A [(h0, .inr (6, (.null :: .null :: .null :: .null :: .null :: .null :: .null :: .null :: .int 0 :: .int 0 :: [])))] sz)) 30 900 (va_A [(h0, .inr (6, (.null :: .null :: .null :: .null :: .null :: .null :: .null :: .null :: .int 0 :: .int 0 :: [])))] sz) := by
  refine Met.ofW (cc := cX6_init) (maxL := 1) (ret := none) (by decide +kernel) rfl ?_
  intro p e s m args below meth c s₁ B hml hv
  obtain ⟨rfl, hsz, hP, hK, hD0, hn⟩ := hv
  have hx := B.exec
  have hb := B.bytes
  have hr := B.returns
  have hts : ∀ w ∈ gtbl, w.before _ s = true := fun w h => atoms_spec (ws := Cond.code yX6_init cX6_init 1 none :: gtbl) B.pre w (List.mem_cons_of_mem _ h)
  have hown : s.vm.findClass RX6 = some m.cls := findClass_of_methodNamed B.named
  have hlocks := B.notSynchronized
  have hin : meth.name = "<init>" := (name_of_methodNamed B.named B.method).1
  subst hsz
  have hD := hD0.self (sz := s.heap.size)
  generalize hAe : va_A [(h0, .inr (6, (.null :: .null :: .null :: .null :: .null :: .null :: .null :: .null :: .int 0 :: .int 0 :: [])))] s.heap.size = A at hD ⊢
  have hA : ∀ q : Nat, s.heap.size ≤ q → A q := fun q h => by rw [← hAe]; exact Or.inr h
  have hS : va_S A s.heap s.heap [] := va_S.rf
  have hP : va_P (dC, dI) vwCl [(h0, .inr (6, (.null :: .null :: .null :: .null :: .null :: .null :: .null :: .null :: .int 0 :: .int 0 :: [])))] s.heap := hP
  have hl := lv_entry ([.ref h0]) (n := 1) (Nat.le_of_ble_eq_true rfl)
  rw [lg_entry_eq]
  generalize (lg_sl ([.ref h0]) ++ List.replicate (1 - (lg_sl ([.ref h0])).length) Slot.unset).toArray = ls at hl ⊢
  have hl : lv_has ls 1 [(0, .ref h0)] := hl
  refine lv_aload_n hx hb dX6_init_0 rfl (lv_at hl 0 rfl) ?_
  refine W.objInit hx hb hown (hts _ wm_X6_1) (hts _ wn_obj) (hts _ wk_obj) rfl (by rw [hml]; exact hl.1) rfl dX6_init_1 (Nat.le_of_ble_eq_true rfl) (Nat.le_of_ble_eq_true rfl) ?_
  refine W.eq (g2 := F0 m 4 ls []) rfl ?_
  have hl0 := lv_at hl 0 rfl
  have hP : va_P (dC, dI) vwCl ((h0, .inr (6, (.null :: .null :: .null :: .null :: .null :: .null :: .null :: .null :: .int 0 :: .int 0 :: []))) :: []) s.heap := hP
  have hD : va_D A ((h0, .inr (6, (.null :: .null :: .null :: .null :: .null :: .null :: .null :: .null :: .int 0 :: .int 0 :: []))) :: []) := hD
  refine lv_aload_n hx hb dX6_init_4 rfl hl0 ?_
  refine va_new (ci := 5) (fs := [.null, .int 0, .int 0]) (C := RX5) (T := TX5) (N := 3) hx hb hts wa_X5 tyX5 tyX5_ok hown (hts _ wq_X6_7) (hts _ wt_X5) (hts _ wi_X5) hK hP hD hS hA rfl (fun j hj => by rcases (show j = 0 ∨ j = 1 ∨ j = 2 by omega) with rfl | rfl | rfl <;> rfl) (Nat.le_of_ble_eq_true rfl) (Nat.le_of_ble_eq_true rfl) dX6_init_5 (fun q1 H hP hD hS => ?_)
  refine W.widen (k := 1) (n := 3) (Nat.le_of_ble_eq_true rfl) (Nat.le_of_ble_eq_true rfl) ?_
  refine lv_dup hx hb dX6_init_8 rfl ?_
  have hPc := P_r (a := (h0, .inr (6, (.null :: .null :: .null :: .null :: .null :: .null :: .null :: .null :: .int 0 :: .int 0 :: []))) :: []) hP
  have hDc := D_r (a := (h0, .inr (6, (.null :: .null :: .null :: .null :: .null :: .null :: .null :: .null :: .int 0 :: .int 0 :: []))) :: []) hD
  have hKc := hK.sub (tys' := []) [] rfl
  have hFc := fr_r (a := (h0, .inr (6, (.null :: .null :: .null :: .null :: .null :: .null :: .null :: .null :: .int 0 :: .int 0 :: []))) :: []) (b := [(q1, .inr (5, [.null, .int 0, .int 0]))]) hD hS hA
  refine va_callv (va_runIN (host := "WingDesk") (As := []) (rest := [.ref q1, .ref h0]) ⟨hx, hb, hml, hown, hts⟩ (ci_X5 l dC dI q1 H.size) ⟨va_cnB 0 hts (good_in (fun w hw => by rcases List.mem_cons.mp hw with rfl | hw; exact wk_X5_init; exact hw)) rfl rfl rfl (hn _ nm_X6_9) (hts _ wi_X5) ⟨by decide +kernel, by decide +kernel, by decide +kernel⟩ ⟨Nat.le_of_ble_eq_true rfl, Nat.le_of_ble_eq_true rfl⟩, rfl, hts _ wn_X5_init⟩ ⟨fun a U g mk q => by obtain ⟨q0, q1, qP, qK, qD⟩ := q; exact ⟨q0, q1, qP, va_K.moved (u := U) (U := U.calling g mk a) (Vm.Alike.refl U.vm) qK, qD⟩, fun U hU hW => ⟨rfl, by rw [hU], by rw [hU]; exact hPc, va_K.moved hW.alike hKc, hDc.weaken (fun _ _ _ _ => trivial)⟩⟩ rfl rfl hl.1 rfl (lv_room (Nat.le_of_ble_eq_true rfl)) dX6_init_9 ⟨Nat.le_of_ble_eq_true rfl, Nat.le_of_ble_eq_true rfl⟩) hS (fun q _ h => hFc q h) hFc (fun v1 t H1 locs ht hvm hw hB hz1 hk1 hS => ?_)
  obtain ⟨hP1, hK1, hD1⟩ := hB
  rw [ht] at hP1
  have hK1 := va_K.moved hvm.symm hK1
  obtain ⟨hP, hD⟩ := join_r (a := (h0, .inr (6, (.null :: .null :: .null :: .null :: .null :: .null :: .null :: .null :: .int 0 :: .int 0 :: []))) :: []) hP hD hk1 hFc hP1 hD1
  have hK := hK.app hK1
  generalize H1 = H at hP hS ⊢
  have hP : va_P (dC, dI) vwCl ((h0, .inr (6, (.null :: .null :: .null :: .null :: .null :: .null :: .null :: .null :: .int 0 :: .int 0 :: []))) :: ([] ++ lw_X5 q1 v1)) H := hP
  have hD : va_D A ((h0, .inr (6, (.null :: .null :: .null :: .null :: .null :: .null :: .null :: .null :: .int 0 :: .int 0 :: []))) :: ([] ++ lw_X5 q1 v1)) := hD
  have hK : va_K (dC, dI) vwCl ([] ++ lt_X5 v1) s := hK
  clear hP1 hD1 hK1 hk1 hz1 hFc hPc hDc hKc ht hvm hw
  refine W.widen (k := 2) (n := 323) (Nat.le_of_ble_eq_true rfl) (Nat.le_of_ble_eq_true rfl) ?_
  refine va_putF (D := (dC, dI)) (ci := 6) (v := .ref q1) (ty := .object "WingDesk$Wardrobe") (C := RX6) (T := TX6) (N := 10) hx hb hts wa_X6 tyX6 tyX6_ok nmX6 hown hK hP hD hS 0 rfl rfl 0 (by decide) (hts _ wf_X6_10) (fun _ h9 => h9) rfl hin rfl (by decide +kernel) rfl rfl (Nat.le_of_ble_eq_true rfl) dX6_init_12 (fun H locs hP hD hS => ?_)
  have hP : va_P (dC, dI) vwCl ((h0, .inr (6, (.ref q1 :: .null :: .null :: .null :: .null :: .null :: .null :: .null :: .int 0 :: .int 0 :: []))) :: ([] ++ lw_X5 q1 v1)) H := hP
  have hD : va_D A ((h0, .inr (6, (.ref q1 :: .null :: .null :: .null :: .null :: .null :: .null :: .null :: .int 0 :: .int 0 :: []))) :: ([] ++ lw_X5 q1 v1)) := hD
  refine lv_aload_n hx hb dX6_init_15 rfl hl0 ?_
  refine va_new (ci := 2) (fs := [.null, .null, .null]) (C := RX2) (T := TX2) (N := 3) hx hb hts wa_X2 tyX2 tyX2_ok hown (hts _ wq_X6_16) (hts _ wt_X2) (hts _ wi_X2) hK hP hD hS hA rfl (fun j hj => by rcases (show j = 0 ∨ j = 1 ∨ j = 2 by omega) with rfl | rfl | rfl <;> rfl) (Nat.le_of_ble_eq_true rfl) (Nat.le_of_ble_eq_true rfl) dX6_init_16 (fun q2 H hP hD hS => ?_)
  refine W.widen (k := 3) (n := 326) (Nat.le_of_ble_eq_true rfl) (Nat.le_of_ble_eq_true rfl) ?_
  refine lv_dup hx hb dX6_init_19 rfl ?_
  have hPc := P_r (a := (h0, .inr (6, (.ref q1 :: .null :: .null :: .null :: .null :: .null :: .null :: .null :: .int 0 :: .int 0 :: []))) :: ([] ++ lw_X5 q1 v1)) hP
  have hDc := D_r (a := (h0, .inr (6, (.ref q1 :: .null :: .null :: .null :: .null :: .null :: .null :: .null :: .int 0 :: .int 0 :: []))) :: ([] ++ lw_X5 q1 v1)) hD
  have hKc := hK.sub (tys' := []) [] rfl
  have hFc := fr_r (a := (h0, .inr (6, (.ref q1 :: .null :: .null :: .null :: .null :: .null :: .null :: .null :: .int 0 :: .int 0 :: []))) :: ([] ++ lw_X5 q1 v1)) (b := [(q2, .inr (2, [.null, .null, .null]))]) hD hS hA
  refine va_callv (va_runIN (host := "WingDesk") (As := []) (rest := [.ref q2, .ref h0]) ⟨hx, hb, hml, hown, hts⟩ (ci_X2 l dC dI q2 H.size) ⟨va_cnB 0 hts (good_in (fun w hw => by rcases List.mem_cons.mp hw with rfl | hw; exact wk_X2_init; exact hw)) rfl rfl rfl (hn _ nm_X6_18) (hts _ wi_X2) ⟨by decide +kernel, by decide +kernel, by decide +kernel⟩ ⟨Nat.le_of_ble_eq_true rfl, Nat.le_of_ble_eq_true rfl⟩, rfl, hts _ wn_X2_init⟩ ⟨fun a U g mk q => by obtain ⟨q0, q1, qP, qK, qD⟩ := q; exact ⟨q0, q1, qP, va_K.moved (u := U) (U := U.calling g mk a) (Vm.Alike.refl U.vm) qK, qD⟩, fun U hU hW => ⟨rfl, by rw [hU], by rw [hU]; exact hPc, va_K.moved hW.alike hKc, hDc.weaken (fun _ _ _ _ => trivial)⟩⟩ rfl rfl hl.1 rfl (lv_room (Nat.le_of_ble_eq_true rfl)) dX6_init_20 ⟨Nat.le_of_ble_eq_true rfl, Nat.le_of_ble_eq_true rfl⟩) hS (fun q _ h => hFc q h) hFc (fun v2 t H1 locs ht hvm hw hB hz1 hk1 hS => ?_)
  obtain ⟨hP1, hK1, hD1⟩ := hB
  rw [ht] at hP1
  have hK1 := va_K.moved hvm.symm hK1
  obtain ⟨hP, hD⟩ := join_r (a := (h0, .inr (6, (.ref q1 :: .null :: .null :: .null :: .null :: .null :: .null :: .null :: .int 0 :: .int 0 :: []))) :: ([] ++ lw_X5 q1 v1)) hP hD hk1 hFc hP1 hD1
  have hK := hK.app hK1
  generalize H1 = H at hP hS ⊢
  have hP : va_P (dC, dI) vwCl ((h0, .inr (6, (.ref q1 :: .null :: .null :: .null :: .null :: .null :: .null :: .null :: .int 0 :: .int 0 :: []))) :: (([] ++ lw_X5 q1 v1) ++ lw_X2 q2 v2)) H := hP
  have hD : va_D A ((h0, .inr (6, (.ref q1 :: .null :: .null :: .null :: .null :: .null :: .null :: .null :: .int 0 :: .int 0 :: []))) :: (([] ++ lw_X5 q1 v1) ++ lw_X2 q2 v2)) := hD
  have hK : va_K (dC, dI) vwCl (([] ++ lt_X5 v1) ++ lt_X2 v2) s := hK
  clear hP1 hD1 hK1 hk1 hz1 hFc hPc hDc hKc ht hvm hw
  refine W.widen (k := 6) (n := 466) (Nat.le_of_ble_eq_true rfl) (Nat.le_of_ble_eq_true rfl) ?_
  refine va_putF (D := (dC, dI)) (ci := 6) (v := .ref q2) (ty := .object "WingDesk$Looks") (C := RX6) (T := TX6) (N := 10) hx hb hts wa_X6 tyX6 tyX6_ok nmX6 hown hK hP hD hS 0 rfl rfl 1 (by decide) (hts _ wf_X6_19) (fun _ h9 => h9) rfl hin rfl (by decide +kernel) rfl rfl (Nat.le_of_ble_eq_true rfl) dX6_init_23 (fun H locs hP hD hS => ?_)
  have hP : va_P (dC, dI) vwCl ((h0, .inr (6, (.ref q1 :: .ref q2 :: .null :: .null :: .null :: .null :: .null :: .null :: .int 0 :: .int 0 :: []))) :: (([] ++ lw_X5 q1 v1) ++ lw_X2 q2 v2)) H := hP
  have hD : va_D A ((h0, .inr (6, (.ref q1 :: .ref q2 :: .null :: .null :: .null :: .null :: .null :: .null :: .int 0 :: .int 0 :: []))) :: (([] ++ lw_X5 q1 v1) ++ lw_X2 q2 v2)) := hD
  refine lv_aload_n hx hb dX6_init_26 rfl hl0 ?_
  refine va_new (ci := 1) (fs := (.null :: .null :: .int 0 :: .int 0 :: .int 0 :: .int 0 :: .int 0 :: .null :: .null :: .null :: .null :: .null :: .null :: .null :: .int 0 :: .int 0 :: .int 0 :: .int 0 :: [])) (C := RX1) (T := TX1) (N := 18) hx hb hts wa_X1 tyX1 tyX1_ok hown (hts _ wq_X6_23) (hts _ wt_X1) (hts _ wi_X1) hK hP hD hS hA rfl (fun j hj => by rcases (show j = 0 ∨ j = 1 ∨ j = 2 ∨ j = 3 ∨ j = 4 ∨ j = 5 ∨ j = 6 ∨ j = 7 ∨ j = 8 ∨ j = 9 ∨ j = 10 ∨ j = 11 ∨ j = 12 ∨ j = 13 ∨ j = 14 ∨ j = 15 ∨ j = 16 ∨ j = 17 by omega) with rfl | rfl | rfl | rfl | rfl | rfl | rfl | rfl | rfl | rfl | rfl | rfl | rfl | rfl | rfl | rfl | rfl | rfl <;> rfl) (Nat.le_of_ble_eq_true rfl) (Nat.le_of_ble_eq_true rfl) dX6_init_27 (fun q3 H hP hD hS => ?_)
  refine W.widen (k := 7) (n := 484) (Nat.le_of_ble_eq_true rfl) (Nat.le_of_ble_eq_true rfl) ?_
  refine lv_dup hx hb dX6_init_30 rfl ?_
  refine lv_aload_n hx hb dX6_init_31 rfl hl0 ?_
  refine va_get (D := (dC, dI)) (ci := 6) (v := .ref q1) (C := RX6) (T := TX6) (N := 10) hx hb hts wa_X6 hown hK hP 0 rfl rfl 0 (by decide) (hts _ wf_X6_10) (fun _ h9 => h9) rfl dX6_init_32 ?_
  refine lv_aload_n hx hb dX6_init_35 rfl hl0 ?_
  refine va_get (D := (dC, dI)) (ci := 6) (v := .ref q2) (C := RX6) (T := TX6) (N := 10) hx hb hts wa_X6 hown hK hP 0 rfl rfl 1 (by decide) (hts _ wf_X6_19) (fun _ h9 => h9) rfl dX6_init_36 ?_
  have hPc := P_r (a := (h0, .inr (6, (.ref q1 :: .ref q2 :: .null :: .null :: .null :: .null :: .null :: .null :: .int 0 :: .int 0 :: []))) :: (([] ++ lw_X5 q1 v1) ++ lw_X2 q2 v2)) hP
  have hDc := D_r (a := (h0, .inr (6, (.ref q1 :: .ref q2 :: .null :: .null :: .null :: .null :: .null :: .null :: .int 0 :: .int 0 :: []))) :: (([] ++ lw_X5 q1 v1) ++ lw_X2 q2 v2)) hD
  have hKc := hK.sub (tys' := []) [] rfl
  have hFc := fr_r (a := (h0, .inr (6, (.ref q1 :: .ref q2 :: .null :: .null :: .null :: .null :: .null :: .null :: .int 0 :: .int 0 :: []))) :: (([] ++ lw_X5 q1 v1) ++ lw_X2 q2 v2)) (b := [(q3, .inr (1, (.null :: .null :: .int 0 :: .int 0 :: .int 0 :: .int 0 :: .int 0 :: .null :: .null :: .null :: .null :: .null :: .null :: .null :: .int 0 :: .int 0 :: .int 0 :: .int 0 :: [])))]) hD hS hA
  refine va_callv (va_runI (As := [.ref q1, .ref q2]) (rest := [.ref q3, .ref h0]) ⟨hx, hb, hml, hown, hts⟩ (ci_X1 l dC dI q3 q1 q2 H.size) (cwI 2 hts (good_in (fun w hw => by rcases List.mem_cons.mp hw with rfl | hw; exact wk_X1_init; exact hw)) rfl rfl rfl (hts _ wi_X1) (hts _ wm_X6_25) (hts _ wn_X1_init) rfl ⟨by decide +kernel, by decide +kernel, by decide +kernel⟩ ⟨Nat.le_of_ble_eq_true rfl, Nat.le_of_ble_eq_true rfl⟩) ⟨fun a U g mk q => by obtain ⟨q0, q1, qP, qK, qD⟩ := q; exact ⟨q0, q1, qP, va_K.moved (u := U) (U := U.calling g mk a) (Vm.Alike.refl U.vm) qK, qD⟩, fun U hU hW => ⟨rfl, by rw [hU], by rw [hU]; exact hPc, va_K.moved hW.alike hKc, hDc.weaken (fun _ _ _ _ => trivial)⟩⟩ rfl rfl hl.1 rfl (lv_room (Nat.le_of_ble_eq_true rfl)) dX6_init_39 ⟨Nat.le_of_ble_eq_true rfl, Nat.le_of_ble_eq_true rfl⟩) hS (fun q _ h => hFc q h) hFc (fun v3 t H1 locs ht hvm hw hB hz1 hk1 hS => ?_)
  obtain ⟨hP1, hK1, hD1⟩ := hB
  rw [ht] at hP1
  have hK1 := va_K.moved hvm.symm hK1
  obtain ⟨hP, hD⟩ := join_r (a := (h0, .inr (6, (.ref q1 :: .ref q2 :: .null :: .null :: .null :: .null :: .null :: .null :: .int 0 :: .int 0 :: []))) :: (([] ++ lw_X5 q1 v1) ++ lw_X2 q2 v2)) hP hD hk1 hFc hP1 hD1
  have hK := hK.app hK1
  generalize H1 = H at hP hS ⊢
  have hP : va_P (dC, dI) vwCl ((h0, .inr (6, (.ref q1 :: .ref q2 :: .null :: .null :: .null :: .null :: .null :: .null :: .int 0 :: .int 0 :: []))) :: ((([] ++ lw_X5 q1 v1) ++ lw_X2 q2 v2) ++ lw_X1 q3 q1 q2 v3)) H := hP
  have hD : va_D A ((h0, .inr (6, (.ref q1 :: .ref q2 :: .null :: .null :: .null :: .null :: .null :: .null :: .int 0 :: .int 0 :: []))) :: ((([] ++ lw_X5 q1 v1) ++ lw_X2 q2 v2) ++ lw_X1 q3 q1 q2 v3)) := hD
  have hK : va_K (dC, dI) vwCl ((([] ++ lt_X5 v1) ++ lt_X2 v2) ++ lt_X1 v3) s := hK
  clear hP1 hD1 hK1 hk1 hz1 hFc hPc hDc hKc ht hvm hw
  refine W.widen (k := 14) (n := 540) (Nat.le_of_ble_eq_true rfl) (Nat.le_of_ble_eq_true rfl) ?_
  refine va_putF (D := (dC, dI)) (ci := 6) (v := .ref q3) (ty := .object "WingDesk$Change") (C := RX6) (T := TX6) (N := 10) hx hb hts wa_X6 tyX6 tyX6_ok nmX6 hown hK hP hD hS 0 rfl rfl 2 (by decide) (hts _ wf_X6_28) (fun _ h9 => h9) rfl hin rfl (by decide +kernel) rfl rfl (Nat.le_of_ble_eq_true rfl) dX6_init_42 (fun H locs hP hD hS => ?_)
  have hP : va_P (dC, dI) vwCl ((h0, .inr (6, (.ref q1 :: .ref q2 :: .ref q3 :: .null :: .null :: .null :: .null :: .null :: .int 0 :: .int 0 :: []))) :: ((([] ++ lw_X5 q1 v1) ++ lw_X2 q2 v2) ++ lw_X1 q3 q1 q2 v3)) H := hP
  have hD : va_D A ((h0, .inr (6, (.ref q1 :: .ref q2 :: .ref q3 :: .null :: .null :: .null :: .null :: .null :: .int 0 :: .int 0 :: []))) :: ((([] ++ lw_X5 q1 v1) ++ lw_X2 q2 v2) ++ lw_X1 q3 q1 q2 v3)) := hD
  refine lv_aload_n hx hb dX6_init_45 rfl hl0 ?_
  refine va_new (ci := 4) (fs := [.null, .null, .null, .null, .null, .int 0]) (C := RX4) (T := TX4) (N := 6) hx hb hts wa_X4 tyX4 tyX4_ok hown (hts _ wq_X6_32) (hts _ wt_X4) (hts _ wi_X4) hK hP hD hS hA rfl (fun j hj => by rcases (show j = 0 ∨ j = 1 ∨ j = 2 ∨ j = 3 ∨ j = 4 ∨ j = 5 by omega) with rfl | rfl | rfl | rfl | rfl | rfl <;> rfl) (Nat.le_of_ble_eq_true rfl) (Nat.le_of_ble_eq_true rfl) dX6_init_46 (fun q4 H hP hD hS => ?_)
  refine W.widen (k := 15) (n := 546) (Nat.le_of_ble_eq_true rfl) (Nat.le_of_ble_eq_true rfl) ?_
  refine lv_dup hx hb dX6_init_49 rfl ?_
  have hPc := P_r (a := (h0, .inr (6, (.ref q1 :: .ref q2 :: .ref q3 :: .null :: .null :: .null :: .null :: .null :: .int 0 :: .int 0 :: []))) :: ((([] ++ lw_X5 q1 v1) ++ lw_X2 q2 v2) ++ lw_X1 q3 q1 q2 v3)) hP
  have hDc := D_r (a := (h0, .inr (6, (.ref q1 :: .ref q2 :: .ref q3 :: .null :: .null :: .null :: .null :: .null :: .int 0 :: .int 0 :: []))) :: ((([] ++ lw_X5 q1 v1) ++ lw_X2 q2 v2) ++ lw_X1 q3 q1 q2 v3)) hD
  have hKc := hK.sub (tys' := []) [] rfl
  have hFc := fr_r (a := (h0, .inr (6, (.ref q1 :: .ref q2 :: .ref q3 :: .null :: .null :: .null :: .null :: .null :: .int 0 :: .int 0 :: []))) :: ((([] ++ lw_X5 q1 v1) ++ lw_X2 q2 v2) ++ lw_X1 q3 q1 q2 v3)) (b := [(q4, .inr (4, [.null, .null, .null, .null, .null, .int 0]))]) hD hS hA
  refine va_callv (va_runIN (host := "WingDesk") (As := []) (rest := [.ref q4, .ref h0]) ⟨hx, hb, hml, hown, hts⟩ (ci_X4 l dC dI q4 H.size) ⟨va_cnB 0 hts (good_in (fun w hw => by rcases List.mem_cons.mp hw with rfl | hw; exact wk_X4_init; exact hw)) rfl rfl rfl (hn _ nm_X6_34) (hts _ wi_X4) ⟨by decide +kernel, by decide +kernel, by decide +kernel⟩ ⟨Nat.le_of_ble_eq_true rfl, Nat.le_of_ble_eq_true rfl⟩, rfl, hts _ wn_X4_init⟩ ⟨fun a U g mk q => by obtain ⟨q0, q1, qP, qK, qD⟩ := q; exact ⟨q0, q1, qP, va_K.moved (u := U) (U := U.calling g mk a) (Vm.Alike.refl U.vm) qK, qD⟩, fun U hU hW => ⟨rfl, by rw [hU], by rw [hU]; exact hPc, va_K.moved hW.alike hKc, hDc.weaken (fun _ _ _ _ => trivial)⟩⟩ rfl rfl hl.1 rfl (lv_room (Nat.le_of_ble_eq_true rfl)) dX6_init_50 ⟨Nat.le_of_ble_eq_true rfl, Nat.le_of_ble_eq_true rfl⟩) hS (fun q _ h => hFc q h) hFc (fun v4 t H1 locs ht hvm hw hB hz1 hk1 hS => ?_)
  obtain ⟨hP1, hK1, hD1⟩ := hB
  rw [ht] at hP1
  have hK1 := va_K.moved hvm.symm hK1
  obtain ⟨hP, hD⟩ := join_r (a := (h0, .inr (6, (.ref q1 :: .ref q2 :: .ref q3 :: .null :: .null :: .null :: .null :: .null :: .int 0 :: .int 0 :: []))) :: ((([] ++ lw_X5 q1 v1) ++ lw_X2 q2 v2) ++ lw_X1 q3 q1 q2 v3)) hP hD hk1 hFc hP1 hD1
  have hK := hK.app hK1
  generalize H1 = H at hP hS ⊢
  have hP : va_P (dC, dI) vwCl ((h0, .inr (6, (.ref q1 :: .ref q2 :: .ref q3 :: .null :: .null :: .null :: .null :: .null :: .int 0 :: .int 0 :: []))) :: (((([] ++ lw_X5 q1 v1) ++ lw_X2 q2 v2) ++ lw_X1 q3 q1 q2 v3) ++ lw_X4 q4 v4)) H := hP
  have hD : va_D A ((h0, .inr (6, (.ref q1 :: .ref q2 :: .ref q3 :: .null :: .null :: .null :: .null :: .null :: .int 0 :: .int 0 :: []))) :: (((([] ++ lw_X5 q1 v1) ++ lw_X2 q2 v2) ++ lw_X1 q3 q1 q2 v3) ++ lw_X4 q4 v4)) := hD
  have hK : va_K (dC, dI) vwCl (((([] ++ lt_X5 v1) ++ lt_X2 v2) ++ lt_X1 v3) ++ lt_X4 v4) s := hK
  clear hP1 hD1 hK1 hk1 hz1 hFc hPc hDc hKc ht hvm hw
  refine W.widen (k := 20) (n := 630) (Nat.le_of_ble_eq_true rfl) (Nat.le_of_ble_eq_true rfl) ?_
  refine va_putF (D := (dC, dI)) (ci := 6) (v := .ref q4) (ty := .object "WingDesk$Show") (C := RX6) (T := TX6) (N := 10) hx hb hts wa_X6 tyX6 tyX6_ok nmX6 hown hK hP hD hS 0 rfl rfl 3 (by decide) (hts _ wf_X6_35) (fun _ h9 => h9) rfl hin rfl (by decide +kernel) rfl rfl (Nat.le_of_ble_eq_true rfl) dX6_init_53 (fun H locs hP hD hS => ?_)
  have hP : va_P (dC, dI) vwCl ((h0, .inr (6, (.ref q1 :: .ref q2 :: .ref q3 :: .ref q4 :: .null :: .null :: .null :: .null :: .int 0 :: .int 0 :: []))) :: (((([] ++ lw_X5 q1 v1) ++ lw_X2 q2 v2) ++ lw_X1 q3 q1 q2 v3) ++ lw_X4 q4 v4)) H := hP
  have hD : va_D A ((h0, .inr (6, (.ref q1 :: .ref q2 :: .ref q3 :: .ref q4 :: .null :: .null :: .null :: .null :: .int 0 :: .int 0 :: []))) :: (((([] ++ lw_X5 q1 v1) ++ lw_X2 q2 v2) ++ lw_X1 q3 q1 q2 v3) ++ lw_X4 q4 v4)) := hD
  refine lv_aload_n hx hb dX6_init_56 rfl hl0 ?_
  refine va_new (ci := 3) (fs := [.null, .null, .null, .null, .null, .null, .int 0]) (C := RX3) (T := TX3) (N := 7) hx hb hts wa_X3 tyX3 tyX3_ok hown (hts _ wq_X6_39) (hts _ wt_X3) (hts _ wi_X3) hK hP hD hS hA rfl (fun j hj => by rcases (show j = 0 ∨ j = 1 ∨ j = 2 ∨ j = 3 ∨ j = 4 ∨ j = 5 ∨ j = 6 by omega) with rfl | rfl | rfl | rfl | rfl | rfl | rfl <;> rfl) (Nat.le_of_ble_eq_true rfl) (Nat.le_of_ble_eq_true rfl) dX6_init_57 (fun q5 H hP hD hS => ?_)
  refine W.widen (k := 21) (n := 637) (Nat.le_of_ble_eq_true rfl) (Nat.le_of_ble_eq_true rfl) ?_
  refine lv_dup hx hb dX6_init_60 rfl ?_
  refine lv_aload_n hx hb dX6_init_61 rfl hl0 ?_
  refine va_get (D := (dC, dI)) (ci := 6) (v := .ref q4) (C := RX6) (T := TX6) (N := 10) hx hb hts wa_X6 hown hK hP 0 rfl rfl 3 (by decide) (hts _ wf_X6_35) (fun _ h9 => h9) rfl dX6_init_62 ?_
  have hPc := P_r (a := (h0, .inr (6, (.ref q1 :: .ref q2 :: .ref q3 :: .ref q4 :: .null :: .null :: .null :: .null :: .int 0 :: .int 0 :: []))) :: (((([] ++ lw_X5 q1 v1) ++ lw_X2 q2 v2) ++ lw_X1 q3 q1 q2 v3) ++ lw_X4 q4 v4)) hP
  have hDc := D_r (a := (h0, .inr (6, (.ref q1 :: .ref q2 :: .ref q3 :: .ref q4 :: .null :: .null :: .null :: .null :: .int 0 :: .int 0 :: []))) :: (((([] ++ lw_X5 q1 v1) ++ lw_X2 q2 v2) ++ lw_X1 q3 q1 q2 v3) ++ lw_X4 q4 v4)) hD
  have hKc := hK.sub (tys' := []) [] rfl
  have hFc := fr_r (a := (h0, .inr (6, (.ref q1 :: .ref q2 :: .ref q3 :: .ref q4 :: .null :: .null :: .null :: .null :: .int 0 :: .int 0 :: []))) :: (((([] ++ lw_X5 q1 v1) ++ lw_X2 q2 v2) ++ lw_X1 q3 q1 q2 v3) ++ lw_X4 q4 v4)) (b := [(q5, .inr (3, [.null, .null, .null, .null, .null, .null, .int 0]))]) hD hS hA
  refine va_callv (va_runI (As := [.ref q4]) (rest := [.ref q5, .ref h0]) ⟨hx, hb, hml, hown, hts⟩ (ci_X3 l dC dI q5 q4 H.size) (cwI 1 hts (good_in (fun w hw => by rcases List.mem_cons.mp hw with rfl | hw; exact wk_X3_init; exact hw)) rfl rfl rfl (hts _ wi_X3) (hts _ wm_X6_41) (hts _ wn_X3_init) rfl ⟨by decide +kernel, by decide +kernel, by decide +kernel⟩ ⟨Nat.le_of_ble_eq_true rfl, Nat.le_of_ble_eq_true rfl⟩) ⟨fun a U g mk q => by obtain ⟨q0, q1, qP, qK, qD⟩ := q; exact ⟨q0, q1, qP, va_K.moved (u := U) (U := U.calling g mk a) (Vm.Alike.refl U.vm) qK, qD⟩, fun U hU hW => ⟨rfl, by rw [hU], by rw [hU]; exact hPc, va_K.moved hW.alike hKc, hDc.weaken (fun _ _ _ _ => trivial)⟩⟩ rfl rfl hl.1 rfl (lv_room (Nat.le_of_ble_eq_true rfl)) dX6_init_65 ⟨Nat.le_of_ble_eq_true rfl, Nat.le_of_ble_eq_true rfl⟩) hS (fun q _ h => hFc q h) hFc (fun v5 t H1 locs ht hvm hw hB hz1 hk1 hS => ?_)
  obtain ⟨hP1, hK1, hD1⟩ := hB
  rw [ht] at hP1
  have hK1 := va_K.moved hvm.symm hK1
  obtain ⟨hP, hD⟩ := join_r (a := (h0, .inr (6, (.ref q1 :: .ref q2 :: .ref q3 :: .ref q4 :: .null :: .null :: .null :: .null :: .int 0 :: .int 0 :: []))) :: (((([] ++ lw_X5 q1 v1) ++ lw_X2 q2 v2) ++ lw_X1 q3 q1 q2 v3) ++ lw_X4 q4 v4)) hP hD hk1 hFc hP1 hD1
  have hK := hK.app hK1
  generalize H1 = H at hP hS ⊢
  have hP : va_P (dC, dI) vwCl ((h0, .inr (6, (.ref q1 :: .ref q2 :: .ref q3 :: .ref q4 :: .null :: .null :: .null :: .null :: .int 0 :: .int 0 :: []))) :: ((((([] ++ lw_X5 q1 v1) ++ lw_X2 q2 v2) ++ lw_X1 q3 q1 q2 v3) ++ lw_X4 q4 v4) ++ lw_X3 q5 q4 v5)) H := hP
  have hD : va_D A ((h0, .inr (6, (.ref q1 :: .ref q2 :: .ref q3 :: .ref q4 :: .null :: .null :: .null :: .null :: .int 0 :: .int 0 :: []))) :: ((((([] ++ lw_X5 q1 v1) ++ lw_X2 q2 v2) ++ lw_X1 q3 q1 q2 v3) ++ lw_X4 q4 v4) ++ lw_X3 q5 q4 v5)) := hD
  have hK : va_K (dC, dI) vwCl ((((([] ++ lt_X5 v1) ++ lt_X2 v2) ++ lt_X1 v3) ++ lt_X4 v4) ++ lt_X3 v5) s := hK
  clear hP1 hD1 hK1 hk1 hz1 hFc hPc hDc hKc ht hvm hw
  refine W.widen (k := 26) (n := 829) (Nat.le_of_ble_eq_true rfl) (Nat.le_of_ble_eq_true rfl) ?_
  refine va_putF (D := (dC, dI)) (ci := 6) (v := .ref q5) (ty := .object "WingDesk$Roster") (C := RX6) (T := TX6) (N := 10) hx hb hts wa_X6 tyX6 tyX6_ok nmX6 hown hK hP hD hS 0 rfl rfl 4 (by decide) (hts _ wf_X6_44) (fun _ h9 => h9) rfl hin rfl (by decide +kernel) rfl rfl (Nat.le_of_ble_eq_true rfl) dX6_init_68 (fun H locs hP hD hS => ?_)
  have hP : va_P (dC, dI) vwCl ((h0, .inr (6, (.ref q1 :: .ref q2 :: .ref q3 :: .ref q4 :: .ref q5 :: .null :: .null :: .null :: .int 0 :: .int 0 :: []))) :: ((((([] ++ lw_X5 q1 v1) ++ lw_X2 q2 v2) ++ lw_X1 q3 q1 q2 v3) ++ lw_X4 q4 v4) ++ lw_X3 q5 q4 v5)) H := hP
  have hD : va_D A ((h0, .inr (6, (.ref q1 :: .ref q2 :: .ref q3 :: .ref q4 :: .ref q5 :: .null :: .null :: .null :: .int 0 :: .int 0 :: []))) :: ((((([] ++ lw_X5 q1 v1) ++ lw_X2 q2 v2) ++ lw_X1 q3 q1 q2 v3) ++ lw_X4 q4 v4) ++ lw_X3 q5 q4 v5)) := hD
  refine lv_aload_n hx hb dX6_init_71 rfl hl0 ?_
  refine va_new (ci := 0) (fs := [.null, .null, .int 0]) (C := RX0) (T := TX0) (N := 3) hx hb hts wa_X0 tyX0 tyX0_ok hown (hts _ wq_X6_48) (hts _ wt_X0) (hts _ wi_X0) hK hP hD hS hA rfl (fun j hj => by rcases (show j = 0 ∨ j = 1 ∨ j = 2 by omega) with rfl | rfl | rfl <;> rfl) (Nat.le_of_ble_eq_true rfl) (Nat.le_of_ble_eq_true rfl) dX6_init_72 (fun q6 H hP hD hS => ?_)
  refine W.widen (k := 27) (n := 832) (Nat.le_of_ble_eq_true rfl) (Nat.le_of_ble_eq_true rfl) ?_
  refine lv_dup hx hb dX6_init_75 rfl ?_
  refine lv_aload_n hx hb dX6_init_76 rfl hl0 ?_
  refine va_get (D := (dC, dI)) (ci := 6) (v := .ref q1) (C := RX6) (T := TX6) (N := 10) hx hb hts wa_X6 hown hK hP 0 rfl rfl 0 (by decide) (hts _ wf_X6_10) (fun _ h9 => h9) rfl dX6_init_77 ?_
  have hPc := P_r (a := (h0, .inr (6, (.ref q1 :: .ref q2 :: .ref q3 :: .ref q4 :: .ref q5 :: .null :: .null :: .null :: .int 0 :: .int 0 :: []))) :: ((((([] ++ lw_X5 q1 v1) ++ lw_X2 q2 v2) ++ lw_X1 q3 q1 q2 v3) ++ lw_X4 q4 v4) ++ lw_X3 q5 q4 v5)) hP
  have hDc := D_r (a := (h0, .inr (6, (.ref q1 :: .ref q2 :: .ref q3 :: .ref q4 :: .ref q5 :: .null :: .null :: .null :: .int 0 :: .int 0 :: []))) :: ((((([] ++ lw_X5 q1 v1) ++ lw_X2 q2 v2) ++ lw_X1 q3 q1 q2 v3) ++ lw_X4 q4 v4) ++ lw_X3 q5 q4 v5)) hD
  have hKc := hK.sub (tys' := []) [] rfl
  have hFc := fr_r (a := (h0, .inr (6, (.ref q1 :: .ref q2 :: .ref q3 :: .ref q4 :: .ref q5 :: .null :: .null :: .null :: .int 0 :: .int 0 :: []))) :: ((((([] ++ lw_X5 q1 v1) ++ lw_X2 q2 v2) ++ lw_X1 q3 q1 q2 v3) ++ lw_X4 q4 v4) ++ lw_X3 q5 q4 v5)) (b := [(q6, .inr (0, [.null, .null, .int 0]))]) hD hS hA
  refine va_callv (va_runI (As := [.ref q1]) (rest := [.ref q6, .ref h0]) ⟨hx, hb, hml, hown, hts⟩ (ci_X0 l dC dI q6 q1 H.size) (cwI 1 hts (good_in (fun w hw => by rcases List.mem_cons.mp hw with rfl | hw; exact wk_X0_init; exact hw)) rfl rfl rfl (hts _ wi_X0) (hts _ wm_X6_50) (hts _ wn_X0_init) rfl ⟨by decide +kernel, by decide +kernel, by decide +kernel⟩ ⟨Nat.le_of_ble_eq_true rfl, Nat.le_of_ble_eq_true rfl⟩) ⟨fun a U g mk q => by obtain ⟨q0, q1, qP, qK, qD⟩ := q; exact ⟨q0, q1, qP, va_K.moved (u := U) (U := U.calling g mk a) (Vm.Alike.refl U.vm) qK, qD⟩, fun U hU hW => ⟨rfl, by rw [hU], by rw [hU]; exact hPc, va_K.moved hW.alike hKc, hDc.weaken (fun _ _ _ _ => trivial)⟩⟩ rfl rfl hl.1 rfl (lv_room (Nat.le_of_ble_eq_true rfl)) dX6_init_80 ⟨Nat.le_of_ble_eq_true rfl, Nat.le_of_ble_eq_true rfl⟩) hS (fun q _ h => hFc q h) hFc (fun v6 t H1 locs ht hvm hw hB hz1 hk1 hS => ?_)
  obtain ⟨hP1, hK1, hD1⟩ := hB
  rw [ht] at hP1
  have hK1 := va_K.moved hvm.symm hK1
  obtain ⟨hP, hD⟩ := join_r (a := (h0, .inr (6, (.ref q1 :: .ref q2 :: .ref q3 :: .ref q4 :: .ref q5 :: .null :: .null :: .null :: .int 0 :: .int 0 :: []))) :: ((((([] ++ lw_X5 q1 v1) ++ lw_X2 q2 v2) ++ lw_X1 q3 q1 q2 v3) ++ lw_X4 q4 v4) ++ lw_X3 q5 q4 v5)) hP hD hk1 hFc hP1 hD1
  have hK := hK.app hK1
  generalize H1 = H at hP hS ⊢
  have hP : va_P (dC, dI) vwCl ((h0, .inr (6, (.ref q1 :: .ref q2 :: .ref q3 :: .ref q4 :: .ref q5 :: .null :: .null :: .null :: .int 0 :: .int 0 :: []))) :: (((((([] ++ lw_X5 q1 v1) ++ lw_X2 q2 v2) ++ lw_X1 q3 q1 q2 v3) ++ lw_X4 q4 v4) ++ lw_X3 q5 q4 v5) ++ lw_X0 q6 q1 v6)) H := hP
  have hD : va_D A ((h0, .inr (6, (.ref q1 :: .ref q2 :: .ref q3 :: .ref q4 :: .ref q5 :: .null :: .null :: .null :: .int 0 :: .int 0 :: []))) :: (((((([] ++ lw_X5 q1 v1) ++ lw_X2 q2 v2) ++ lw_X1 q3 q1 q2 v3) ++ lw_X4 q4 v4) ++ lw_X3 q5 q4 v5) ++ lw_X0 q6 q1 v6)) := hD
  have hK : va_K (dC, dI) vwCl (((((([] ++ lt_X5 v1) ++ lt_X2 v2) ++ lt_X1 v3) ++ lt_X4 v4) ++ lt_X3 v5) ++ lt_X0 v6) s := hK
  clear hP1 hD1 hK1 hk1 hz1 hFc hPc hDc hKc ht hvm hw
  refine W.widen (k := 28) (n := 864) (Nat.le_of_ble_eq_true rfl) (Nat.le_of_ble_eq_true rfl) ?_
  refine va_putF (D := (dC, dI)) (ci := 6) (v := .ref q6) (ty := .object "WingDesk$Body") (C := RX6) (T := TX6) (N := 10) hx hb hts wa_X6 tyX6 tyX6_ok nmX6 hown hK hP hD hS 0 rfl rfl 5 (by decide) (hts _ wf_X6_53) (fun _ h9 => h9) rfl hin rfl (by decide +kernel) rfl rfl (Nat.le_of_ble_eq_true rfl) dX6_init_83 (fun H locs hP hD hS => ?_)
  have hP : va_P (dC, dI) vwCl ((h0, .inr (6, (.ref q1 :: .ref q2 :: .ref q3 :: .ref q4 :: .ref q5 :: .ref q6 :: .null :: .null :: .int 0 :: .int 0 :: []))) :: (((((([] ++ lw_X5 q1 v1) ++ lw_X2 q2 v2) ++ lw_X1 q3 q1 q2 v3) ++ lw_X4 q4 v4) ++ lw_X3 q5 q4 v5) ++ lw_X0 q6 q1 v6)) H := hP
  have hD : va_D A ((h0, .inr (6, (.ref q1 :: .ref q2 :: .ref q3 :: .ref q4 :: .ref q5 :: .ref q6 :: .null :: .null :: .int 0 :: .int 0 :: []))) :: (((((([] ++ lw_X5 q1 v1) ++ lw_X2 q2 v2) ++ lw_X1 q3 q1 q2 v3) ++ lw_X4 q4 v4) ++ lw_X3 q5 q4 v5) ++ lw_X0 q6 q1 v6)) := hD
  refine lv_aload_n hx hb dX6_init_86 rfl hl0 ?_
  refine lv_bipush (v := 30) hx hb dX6_init_87 (by decide) ?_
  refine va_newa (atype := .int) (a0 := (30, .inl (fun _ => 0))) hx hb (hts _ wa_int) rfl hK hP hD hS hA (fun _ => rfl) (by decide) (by decide) (by decide) (Nat.le_of_ble_eq_true rfl) (Nat.le_of_ble_eq_true rfl) dX6_init_89 (fun q7 cc7 H hK hP hD hS => ?_)
  have hP : va_P (dC, dI) vwCl ((h0, .inr (6, (.ref q1 :: .ref q2 :: .ref q3 :: .ref q4 :: .ref q5 :: .ref q6 :: .null :: .null :: .int 0 :: .int 0 :: []))) :: ((((((([] ++ lw_X5 q1 v1) ++ lw_X2 q2 v2) ++ lw_X1 q3 q1 q2 v3) ++ lw_X4 q4 v4) ++ lw_X3 q5 q4 v5) ++ lw_X0 q6 q1 v6) ++ [(q7, .inl (cc7, 30, .inl (fun _ => 0)))])) H := hP
  have hD : va_D A ((h0, .inr (6, (.ref q1 :: .ref q2 :: .ref q3 :: .ref q4 :: .ref q5 :: .ref q6 :: .null :: .null :: .int 0 :: .int 0 :: []))) :: ((((((([] ++ lw_X5 q1 v1) ++ lw_X2 q2 v2) ++ lw_X1 q3 q1 q2 v3) ++ lw_X4 q4 v4) ++ lw_X3 q5 q4 v5) ++ lw_X0 q6 q1 v6) ++ [(q7, .inl (cc7, 30, .inl (fun _ => 0)))])) := hD
  have hK : va_K (dC, dI) vwCl ((((((([] ++ lt_X5 v1) ++ lt_X2 v2) ++ lt_X1 v3) ++ lt_X4 v4) ++ lt_X3 v5) ++ lt_X0 v6) ++ [(cc7, .int)]) s := hK
  refine W.widen (k := 29) (n := 894) (Nat.le_of_ble_eq_true rfl) (Nat.le_of_ble_eq_true rfl) ?_
  refine va_putF (D := (dC, dI)) (ci := 6) (v := .ref q7) (ty := .array .int) (C := RX6) (T := TX6) (N := 10) hx hb hts wa_X6 tyX6 tyX6_ok nmX6 hown hK hP hD hS 0 rfl rfl 6 (by decide) (hts _ wf_X6_57) (fun _ h9 => h9) rfl hin rfl (by decide +kernel) rfl rfl (Nat.le_of_ble_eq_true rfl) dX6_init_91 (fun H locs hP hD hS => ?_)
  have hP : va_P (dC, dI) vwCl ((h0, .inr (6, (.ref q1 :: .ref q2 :: .ref q3 :: .ref q4 :: .ref q5 :: .ref q6 :: .ref q7 :: .null :: .int 0 :: .int 0 :: []))) :: ((((((([] ++ lw_X5 q1 v1) ++ lw_X2 q2 v2) ++ lw_X1 q3 q1 q2 v3) ++ lw_X4 q4 v4) ++ lw_X3 q5 q4 v5) ++ lw_X0 q6 q1 v6) ++ [(q7, .inl (cc7, 30, .inl (fun _ => 0)))])) H := hP
  have hD : va_D A ((h0, .inr (6, (.ref q1 :: .ref q2 :: .ref q3 :: .ref q4 :: .ref q5 :: .ref q6 :: .ref q7 :: .null :: .int 0 :: .int 0 :: []))) :: ((((((([] ++ lw_X5 q1 v1) ++ lw_X2 q2 v2) ++ lw_X1 q3 q1 q2 v3) ++ lw_X4 q4 v4) ++ lw_X3 q5 q4 v5) ++ lw_X0 q6 q1 v6) ++ [(q7, .inl (cc7, 30, .inl (fun _ => 0)))])) := hD
  refine lv_aload_n hx hb dX6_init_94 rfl hl0 ?_
  refine lv_bipush (v := 6) hx hb dX6_init_95 (by decide) ?_
  refine va_newa (atype := .int) (a0 := (6, .inl (fun _ => 0))) hx hb (hts _ wa_int) rfl hK hP hD hS hA (fun _ => rfl) (by decide) (by decide) (by decide) (Nat.le_of_ble_eq_true rfl) (Nat.le_of_ble_eq_true rfl) dX6_init_97 (fun q8 cc8 H hK hP hD hS => ?_)
  have hP : va_P (dC, dI) vwCl ((h0, .inr (6, (.ref q1 :: .ref q2 :: .ref q3 :: .ref q4 :: .ref q5 :: .ref q6 :: .ref q7 :: .null :: .int 0 :: .int 0 :: []))) :: (((((((([] ++ lw_X5 q1 v1) ++ lw_X2 q2 v2) ++ lw_X1 q3 q1 q2 v3) ++ lw_X4 q4 v4) ++ lw_X3 q5 q4 v5) ++ lw_X0 q6 q1 v6) ++ [(q7, .inl (cc7, 30, .inl (fun _ => 0)))]) ++ [(q8, .inl (cc8, 6, .inl (fun _ => 0)))])) H := hP
  have hD : va_D A ((h0, .inr (6, (.ref q1 :: .ref q2 :: .ref q3 :: .ref q4 :: .ref q5 :: .ref q6 :: .ref q7 :: .null :: .int 0 :: .int 0 :: []))) :: (((((((([] ++ lw_X5 q1 v1) ++ lw_X2 q2 v2) ++ lw_X1 q3 q1 q2 v3) ++ lw_X4 q4 v4) ++ lw_X3 q5 q4 v5) ++ lw_X0 q6 q1 v6) ++ [(q7, .inl (cc7, 30, .inl (fun _ => 0)))]) ++ [(q8, .inl (cc8, 6, .inl (fun _ => 0)))])) := hD
  have hK : va_K (dC, dI) vwCl (((((((([] ++ lt_X5 v1) ++ lt_X2 v2) ++ lt_X1 v3) ++ lt_X4 v4) ++ lt_X3 v5) ++ lt_X0 v6) ++ [(cc7, .int)]) ++ [(cc8, .int)]) s := hK
  refine W.widen (k := 30) (n := 900) (Nat.le_of_ble_eq_true rfl) (Nat.le_of_ble_eq_true rfl) ?_
  refine va_putF (D := (dC, dI)) (ci := 6) (v := .ref q8) (ty := .array .int) (C := RX6) (T := TX6) (N := 10) hx hb hts wa_X6 tyX6 tyX6_ok nmX6 hown hK hP hD hS 0 rfl rfl 7 (by decide) (hts _ wf_X6_61) (fun _ h9 => h9) rfl hin rfl (by decide +kernel) rfl rfl (Nat.le_of_ble_eq_true rfl) dX6_init_99 (fun H locs hP hD hS => ?_)
  have hP : va_P (dC, dI) vwCl ((h0, .inr (6, (.ref q1 :: .ref q2 :: .ref q3 :: .ref q4 :: .ref q5 :: .ref q6 :: .ref q7 :: .ref q8 :: .int 0 :: .int 0 :: []))) :: (((((((([] ++ lw_X5 q1 v1) ++ lw_X2 q2 v2) ++ lw_X1 q3 q1 q2 v3) ++ lw_X4 q4 v4) ++ lw_X3 q5 q4 v5) ++ lw_X0 q6 q1 v6) ++ [(q7, .inl (cc7, 30, .inl (fun _ => 0)))]) ++ [(q8, .inl (cc8, 6, .inl (fun _ => 0)))])) H := hP
  have hD : va_D A ((h0, .inr (6, (.ref q1 :: .ref q2 :: .ref q3 :: .ref q4 :: .ref q5 :: .ref q6 :: .ref q7 :: .ref q8 :: .int 0 :: .int 0 :: []))) :: (((((((([] ++ lw_X5 q1 v1) ++ lw_X2 q2 v2) ++ lw_X1 q3 q1 q2 v3) ++ lw_X4 q4 v4) ++ lw_X3 q5 q4 v5) ++ lw_X0 q6 q1 v6) ++ [(q7, .inl (cc7, 30, .inl (fun _ => 0)))]) ++ [(q8, .inl (cc8, 6, .inl (fun _ => 0)))])) := hD
  refine lv_aload_n hx hb dX6_init_102 rfl hl0 ?_
  refine lv_bipush (v := 8) hx hb dX6_init_103 (by decide) ?_
  refine va_put (D := (dC, dI)) (ci := 6) (v := .int 8) (ty := .int) (C := RX6) (T := TX6) (N := 10) hx hb hts wa_X6 tyX6 tyX6_ok nmX6 hown hK hP hD hS 0 rfl rfl 9 (by decide) (hts _ wf_X6_64) (fun _ h9 => h9) rfl (by decide +kernel) rfl rfl (Nat.le_of_ble_eq_true rfl) dX6_init_105 (fun H locs hP hD hS => ?_)
  have hP : va_P (dC, dI) vwCl ((h0, .inr (6, (.ref q1 :: .ref q2 :: .ref q3 :: .ref q4 :: .ref q5 :: .ref q6 :: .ref q7 :: .ref q8 :: .int 0 :: .int 8 :: []))) :: (((((((([] ++ lw_X5 q1 v1) ++ lw_X2 q2 v2) ++ lw_X1 q3 q1 q2 v3) ++ lw_X4 q4 v4) ++ lw_X3 q5 q4 v5) ++ lw_X0 q6 q1 v6) ++ [(q7, .inl (cc7, 30, .inl (fun _ => 0)))]) ++ [(q8, .inl (cc8, 6, .inl (fun _ => 0)))])) H := hP
  have hD : va_D A ((h0, .inr (6, (.ref q1 :: .ref q2 :: .ref q3 :: .ref q4 :: .ref q5 :: .ref q6 :: .ref q7 :: .ref q8 :: .int 0 :: .int 8 :: []))) :: (((((((([] ++ lw_X5 q1 v1) ++ lw_X2 q2 v2) ++ lw_X1 q3 q1 q2 v3) ++ lw_X4 q4 v4) ++ lw_X3 q5 q4 v5) ++ lw_X0 q6 q1 v6) ++ [(q7, .inl (cc7, 30, .inl (fun _ => 0)))]) ++ [(q8, .inl (cc8, 6, .inl (fun _ => 0)))])) := hD
  simp only [List.nil_append, List.cons_append, lw_X0, lt_X0, lw_X1, lt_X1, lw_X2, lt_X2, lw_X3, lt_X3, lw_X4, lt_X4, lw_X5, lt_X5] at hP hD hK
  have hPz : va_P (dC, dI) vwCl (wld shX (fun k => ((h0 :: q1 :: v1.1 0 :: q2 :: v2.1 0 :: v2.1 1 :: v2.1 2 :: q3 :: v3.1 0 :: v3.1 1 :: v3.1 2 :: v3.1 3 :: v3.1 4 :: v3.1 5 :: v3.1 6 :: q4 :: v4.1 0 :: v4.1 1 :: v4.1 2 :: v4.1 3 :: v4.1 4 :: q5 :: v5.1 0 :: v5.1 1 :: v5.1 2 :: v5.1 3 :: v5.1 4 :: q6 :: v6.1 0 :: q7 :: q8 :: []) : List Nat).getD k 0) (fun k => ((0 :: 0 :: v1.2 0 :: 0 :: v2.2 0 :: v2.2 1 :: v2.2 2 :: 0 :: v3.2 0 :: v3.2 1 :: v3.2 2 :: v3.2 3 :: v3.2 4 :: v3.2 5 :: v3.2 6 :: 0 :: v4.2 0 :: v4.2 1 :: v4.2 2 :: v4.2 3 :: v4.2 4 :: 0 :: v5.2 0 :: v5.2 1 :: v5.2 2 :: v5.2 3 :: v5.2 4 :: 0 :: v6.2 0 :: cc7 :: cc8 :: []) : List Nat).getD k 0) s0X) H := by rw [eq_X]; exact hP
  have hDz : va_D A (wld shX (fun k => ((h0 :: q1 :: v1.1 0 :: q2 :: v2.1 0 :: v2.1 1 :: v2.1 2 :: q3 :: v3.1 0 :: v3.1 1 :: v3.1 2 :: v3.1 3 :: v3.1 4 :: v3.1 5 :: v3.1 6 :: q4 :: v4.1 0 :: v4.1 1 :: v4.1 2 :: v4.1 3 :: v4.1 4 :: q5 :: v5.1 0 :: v5.1 1 :: v5.1 2 :: v5.1 3 :: v5.1 4 :: q6 :: v6.1 0 :: q7 :: q8 :: []) : List Nat).getD k 0) (fun k => ((0 :: 0 :: v1.2 0 :: 0 :: v2.2 0 :: v2.2 1 :: v2.2 2 :: 0 :: v3.2 0 :: v3.2 1 :: v3.2 2 :: v3.2 3 :: v3.2 4 :: v3.2 5 :: v3.2 6 :: 0 :: v4.2 0 :: v4.2 1 :: v4.2 2 :: v4.2 3 :: v4.2 4 :: 0 :: v5.2 0 :: v5.2 1 :: v5.2 2 :: v5.2 3 :: v5.2 4 :: 0 :: v6.2 0 :: cc7 :: cc8 :: []) : List Nat).getD k 0) s0X) := by rw [eq_X]; exact hD
  have hKz : va_K (dC, dI) vwCl (tys shX (fun k => ((0 :: 0 :: v1.2 0 :: 0 :: v2.2 0 :: v2.2 1 :: v2.2 2 :: 0 :: v3.2 0 :: v3.2 1 :: v3.2 2 :: v3.2 3 :: v3.2 4 :: v3.2 5 :: v3.2 6 :: 0 :: v4.2 0 :: v4.2 1 :: v4.2 2 :: v4.2 3 :: v4.2 4 :: 0 :: v5.2 0 :: v5.2 1 :: v5.2 2 :: v5.2 3 :: v5.2 4 :: 0 :: v6.2 0 :: cc7 :: cc8 :: []) : List Nat).getD k 0)) s := by rw [et_X]; exact hK
  subst hAe
  exact W.vret hx hb hr (fun t ht hW => ⟨⟨((fun k => ((h0 :: q1 :: v1.1 0 :: q2 :: v2.1 0 :: v2.1 1 :: v2.1 2 :: q3 :: v3.1 0 :: v3.1 1 :: v3.1 2 :: v3.1 3 :: v3.1 4 :: v3.1 5 :: v3.1 6 :: q4 :: v4.1 0 :: v4.1 1 :: v4.1 2 :: v4.1 3 :: v4.1 4 :: q5 :: v5.1 0 :: v5.1 1 :: v5.1 2 :: v5.1 3 :: v5.1 4 :: q6 :: v6.1 0 :: q7 :: q8 :: []) : List Nat).getD k 0), (fun k => ((0 :: 0 :: v1.2 0 :: 0 :: v2.2 0 :: v2.2 1 :: v2.2 2 :: 0 :: v3.2 0 :: v3.2 1 :: v3.2 2 :: v3.2 3 :: v3.2 4 :: v3.2 5 :: v3.2 6 :: 0 :: v4.2 0 :: v4.2 1 :: v4.2 2 :: v4.2 3 :: v4.2 4 :: 0 :: v5.2 0 :: v5.2 1 :: v5.2 2 :: v5.2 3 :: v5.2 4 :: 0 :: v6.2 0 :: cc7 :: cc8 :: []) : List Nat).getD k 0)), rfl, rfl, by show va_P _ _ _ t.heap; rw [ht]; exact hPz, va_K.moved hW.alike hKz, hDz⟩, hS.F ht⟩) hS.2.2 dX6_init_108
