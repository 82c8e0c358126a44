set_option maxRecDepth 100000 in
set_option maxHeartbeats 4000000 in
theorem w_X1_forcedOff_4 {K : Kx} {E : Ex} (h : Ok shX K E RX1 cX1_forcedOff 3 rm_X1_forcedOff) {r : Int32} {u : St} (hr : RetI shX K E cX1_forcedOff 3 r u) : ∀ (n : Nat) (l1 l2 : Int32), f_X1_forcedOff_4 u n l1 l2 = some r → Vd shX K E 3 4 [some (.inr 7), some (.inl l1), some (.inl l2)] [] u := by
  intro n
  induction n with
  | zero => intro l1 l2 hf; cases hf
  | succ n ih =>
    intro l1 l2 hf
    refine r_iload_n (pc := 4) h dX1_forcedOff_4 rfl ?_
    refine r_aload_n (pc := 5) h dX1_forcedOff_5 rfl ?_
    refine gf_X1_53 (pc := 6) (v := (u 7 2)) h rfl dX1_forcedOff_6 ?_
    refine p_ite hf (fun hc1 hf => ?_) (fun hc1 hf => ?_)
    · refine r_icmp_ge (pc := 9) (tgt := 43) h dX1_forcedOff_9 (by decide) (fun _ => ?_) (fun q => absurd hc1 q)
      refine r_iload_n (pc := 43) h dX1_forcedOff_43 rfl ?_
      have hf := Option.some.inj hf
      subst hf
      exact hr 44 _ dX1_forcedOff_44
    · refine r_icmp_ge (pc := 9) (tgt := 43) h dX1_forcedOff_9 (by decide) (fun q => absurd q hc1) (fun _ => ?_)
      refine r_aload_n (pc := 12) h dX1_forcedOff_12 rfl ?_
      refine gf_X1_108 (pc := 13) (v := (u 7 14)) h rfl dX1_forcedOff_13 ?_
      refine r_iload_n (pc := 16) h dX1_forcedOff_16 rfl ?_
      refine p_b hf (fun q2 e3 hf => ?_)
      refine r_cNi (pc := 17) (st := []) h [.inl (u 7 14), .inl l2] cs_X6_hasBit nm_X1_97 (c_X6_hasBit e3) ⟨rfl, rfl, Nat.le_of_ble_eq_true rfl, Nat.le_of_ble_eq_true rfl⟩ (Nat.le_of_ble_eq_true rfl) dX1_forcedOff_17 ?_
      refine p_ite hf (fun hc4 hf => ?_) (fun hc4 hf => ?_)
      · refine r_if_ne (pc := 20) (tgt := 37) h dX1_forcedOff_20 (by decide) (fun q => absurd hc4 q) (fun _ => ?_)
        refine r_aload_n (pc := 23) h dX1_forcedOff_23 rfl ?_
        refine r_iload_n (pc := 24) h dX1_forcedOff_24 rfl ?_
        refine p_b hf (fun q5 e6 hf => ?_)
        refine r_cVi (pc := 25) (k := 7) (st := []) h [.inl l2] cv_X1_mustComeOff wm_X1_121 (c_X1_mustComeOff e6) ⟨rfl, rfl, Nat.le_of_ble_eq_true rfl, Nat.le_of_ble_eq_true rfl⟩ hshX_7 rfl rfl (Nat.le_of_ble_eq_true rfl) dX1_forcedOff_25 ?_
        refine p_ite hf (fun hc7 hf => ?_) (fun hc7 hf => ?_)
        · refine r_if_eq (pc := 28) (tgt := 37) h dX1_forcedOff_28 (by decide) (fun _ => ?_) (fun q => absurd hc7 q)
          refine r_iinc (pc := 37) (v := (l2 + 1)) (L' := [some (.inr 7), some (.inl l1), some (.inl (l2 + 1))]) h dX1_forcedOff_37 rfl rfl (by decide) rfl ?_
          refine r_goto (pc := 40) (tgt := 4) h dX1_forcedOff_40 (by decide) ?_
          exact ih _ _ hf
        · refine r_if_eq (pc := 28) (tgt := 37) h dX1_forcedOff_28 (by decide) (fun q => absurd q hc7) (fun _ => ?_)
          refine r_iload_n (pc := 31) h dX1_forcedOff_31 rfl ?_
          refine r_iconst (pc := 32) (v := 1) h dX1_forcedOff_32 (by decide) ?_
          refine r_iload_n (pc := 33) h dX1_forcedOff_33 rfl ?_
          refine r_ishl (pc := 34) h dX1_forcedOff_34 ?_
          refine r_ior (pc := 35) h dX1_forcedOff_35 ?_
          refine r_istore_n (pc := 36) (L' := [some (.inr 7), some (.inl (l1 ||| (1 <<< (l2 &&& 31)))), some (.inl l2)]) h dX1_forcedOff_36 (by decide) rfl ?_
          refine r_iinc (pc := 37) (v := (l2 + 1)) (L' := [some (.inr 7), some (.inl (l1 ||| (1 <<< (l2 &&& 31)))), some (.inl (l2 + 1))]) h dX1_forcedOff_37 rfl rfl (by decide) rfl ?_
          refine r_goto (pc := 40) (tgt := 4) h dX1_forcedOff_40 (by decide) ?_
          exact ih _ _ hf
      · refine r_if_ne (pc := 20) (tgt := 37) h dX1_forcedOff_20 (by decide) (fun _ => ?_) (fun q => absurd q hc4)
        refine r_iinc (pc := 37) (v := (l2 + 1)) (L' := [some (.inr 7), some (.inl l1), some (.inl (l2 + 1))]) h dX1_forcedOff_37 rfl rfl (by decide) rfl ?_
        refine r_goto (pc := 40) (tgt := 4) h dX1_forcedOff_40 (by decide) ?_
        exact ih _ _ hf
set_option maxRecDepth 100000 in
set_option maxHeartbeats 4000000 in
theorem w_X1_forcedOff_0 {K : Kx} {E : Ex} (h : Ok shX K E RX1 cX1_forcedOff 3 rm_X1_forcedOff) {r : Int32} {u : St} (hr : RetI shX K E cX1_forcedOff 3 r u)  (hf : f_X1_forcedOff u = some r) : Vd shX K E 3 0 [some (.inr 7), none, none] [] u := by
  refine r_iconst (pc := 0) (v := 0) h dX1_forcedOff_0 (by decide) ?_
  refine r_istore_n (pc := 1) (L' := [some (.inr 7), some (.inl 0), none]) h dX1_forcedOff_1 (by decide) rfl ?_
  refine r_iconst (pc := 2) (v := 0) h dX1_forcedOff_2 (by decide) ?_
  refine r_istore_n (pc := 3) (L' := [some (.inr 7), some (.inl 0), some (.inl 0)]) h dX1_forcedOff_3 (by decide) rfl ?_
  exact w_X1_forcedOff_4 h hr FU _ _ hf
theorem c_X1_forcedOff {u : St} {r : Int32} (hf : f_X1_forcedOff u = some r) : CtI shX yX1_forcedOff cX1_forcedOff 3 (some .int) rm_X1_forcedOff [.inr 7] u r u := ct_I (by decide +kernel) (Nat.le_of_ble_eq_true rfl) (fun K E h hr => w_X1_forcedOff_0 h hr  hf)
set_option maxRecDepth 100000 in
set_option maxHeartbeats 4000000 in
theorem w_X1_handle_19 {K : Kx} {E : Ex} (h : Ok shX K E RX1 cX1_handle 4 rm_X1_handle) {r : St} (hr : RetV shX K E cX1_handle 4 r) : ∀ (n : Nat) (u : St) (l1 l2 : Int32), f_X1_handle_19 n u l1 l2 = some r → Vd shX K E 4 19 [some (.inr 7), some (.inl l1), some (.inl l2), none] [] u := by
  intro n
  induction n with
  | zero => intro u l1 l2 hf; cases hf
  | succ n ih =>
    intro u l1 l2 hf
    refine r_iload_n (pc := 19) h dX1_handle_19 rfl ?_
    refine r_bipush (pc := 20) (v := 8) h dX1_handle_20 (by decide) ?_
    refine p_ite hf (fun hc1 hf => ?_) (fun hc1 hf => ?_)
    · refine r_icmp_ge (pc := 22) (tgt := 60) h dX1_handle_22 (by decide) (fun _ => ?_) (fun q => absurd hc1 q)
      have hf := Option.some.inj hf
      subst hf
      exact hr 60 _ dX1_handle_60
    · refine r_icmp_ge (pc := 22) (tgt := 60) h dX1_handle_22 (by decide) (fun q => absurd q hc1) (fun _ => ?_)
      refine r_aload_n (pc := 25) h dX1_handle_25 rfl ?_
      refine p_b hf (fun q2 e3 hf => ?_)
      refine r_cVi (pc := 26) (k := 7) (st := []) h [] cv_X1_forcedOff wm_X1_117 (c_X1_forcedOff e3) ⟨rfl, rfl, Nat.le_of_ble_eq_true rfl, Nat.le_of_ble_eq_true rfl⟩ hshX_7 rfl rfl (Nat.le_of_ble_eq_true rfl) dX1_handle_26 ?_
      refine r_istore_n (pc := 29) (L' := [some (.inr 7), some (.inl l1), some (.inl l2), some (.inl q2)]) h dX1_handle_29 (by decide) rfl ?_
      refine r_iload_n (pc := 30) h dX1_handle_30 rfl ?_
      refine p_ite hf (fun hc4 hf => ?_) (fun hc4 hf => ?_)
      · refine r_if_ne (pc := 31) (tgt := 35) h dX1_handle_31 (by decide) (fun q => absurd hc4 q) (fun _ => ?_)
        have hf := Option.some.inj hf
        subst hf
        exact hr 34 _ dX1_handle_34
      · refine r_if_ne (pc := 31) (tgt := 35) h dX1_handle_31 (by decide) (fun _ => ?_) (fun q => absurd q hc4)
        refine r_aload_n (pc := 35) h dX1_handle_35 rfl ?_
        refine r_dup (pc := 36) h dX1_handle_36 ?_
        refine gf_X1_108 (pc := 37) (v := (u 7 14)) h rfl dX1_handle_37 ?_
        refine r_iload_n (pc := 40) h dX1_handle_40 rfl ?_
        refine r_ior (pc := 41) h dX1_handle_41 ?_
        refine pf_X1_108 (pc := 42) h dX1_handle_42 ?_
        refine r_aload_n (pc := 45) h dX1_handle_45 rfl ?_
        refine r_aload_n (pc := 46) h dX1_handle_46 rfl ?_
        refine r_iload_n (pc := 47) h dX1_handle_47 rfl ?_
        refine p_b hf (fun q5 e6 hf => ?_)
        refine r_cVi (pc := 48) (k := 7) (st := [.inr 7]) h [.inl l1] cv_X1_missing wm_X1_111 (c_X1_missing e6) ⟨rfl, rfl, Nat.le_of_ble_eq_true rfl, Nat.le_of_ble_eq_true rfl⟩ hshX_7 rfl rfl (Nat.le_of_ble_eq_true rfl) dX1_handle_48 ?_
        refine pf_X1_114 (pc := 51) h dX1_handle_51 ?_
        refine r_iinc (pc := 54) (v := (l2 + 1)) (L' := [some (.inr 7), some (.inl l1), some (.inl (l2 + 1)), some (.inl q2)]) h dX1_handle_54 rfl rfl (by decide) rfl ?_
        refine r_goto (pc := 57) (tgt := 19) h dX1_handle_57 (by decide) ?_
        refine r_le [some (.inr 7), some (.inl l1), some (.inl (l2 + 1)), none] ⟨rfl, ⟨rfl, ⟨rfl, trivial⟩⟩⟩ ?_
        exact ih _ _ _ hf
set_option maxRecDepth 100000 in
set_option maxHeartbeats 4000000 in
theorem w_X1_handle_0 {K : Kx} {E : Ex} (h : Ok shX K E RX1 cX1_handle 4 rm_X1_handle) {r : St} (hr : RetV shX K E cX1_handle 4 r) (u : St) (l1 : Int32) (hf : f_X1_handle u l1 = some r) : Vd shX K E 4 0 [some (.inr 7), some (.inl l1), none, none] [] u := by
  refine r_aload_n (pc := 0) h dX1_handle_0 rfl ?_
  refine r_aload_n (pc := 1) h dX1_handle_1 rfl ?_
  refine gf_X1_69 (pc := 2) (v := (u 7 6)) h rfl dX1_handle_2 ?_
  refine pf_X1_108 (pc := 5) h dX1_handle_5 ?_
  refine r_aload_n (pc := 8) h dX1_handle_8 rfl ?_
  refine r_aload_n (pc := 9) h dX1_handle_9 rfl ?_
  refine r_iload_n (pc := 10) h dX1_handle_10 rfl ?_
  refine p_b hf (fun q7 e8 hf => ?_)
  refine r_cVi (pc := 11) (k := 7) (st := [.inr 7]) h [.inl l1] cv_X1_missing wm_X1_111 (c_X1_missing e8) ⟨rfl, rfl, Nat.le_of_ble_eq_true rfl, Nat.le_of_ble_eq_true rfl⟩ hshX_7 rfl rfl (Nat.le_of_ble_eq_true rfl) dX1_handle_11 ?_
  refine pf_X1_114 (pc := 14) h dX1_handle_14 ?_
  refine r_iconst (pc := 17) (v := 0) h dX1_handle_17 (by decide) ?_
  refine r_istore_n (pc := 18) (L' := [some (.inr 7), some (.inl l1), some (.inl 0), none]) h dX1_handle_18 (by decide) rfl ?_
  exact w_X1_handle_19 h hr FU _ _ _ hf
theorem c_X1_handle {u : St} {l1 : Int32} {r : St} (hf : f_X1_handle u l1 = some r) : CtV shX yX1_handle cX1_handle 4 none rm_X1_handle [.inr 7, .inl l1] u r := ct_V (by decide +kernel) (Nat.le_of_ble_eq_true rfl) (fun K E h hr => w_X1_handle_0 h hr _ _ hf)
set_option maxRecDepth 100000 in
set_option maxHeartbeats 4000000 in
theorem w_J6_bitCount_0 {K : Kx} {E : Ex} (h : Ok shX K E RJ6 cJ6_bitCount_0f7a4 1 rm_J6_bitCount) {r : Int32} {u : St} (hr : RetI shX K E cJ6_bitCount_0f7a4 1 r u) (l0 : Int32) (hf : f_J6_bitCount u l0 = some r) : Vd shX K E 1 0 [some (.inl l0)] [] u := by
  refine r_iload_n (pc := 0) h dJ6_bitCount_0f7a4_0 rfl ?_
  refine r_iload_n (pc := 1) h dJ6_bitCount_0f7a4_1 rfl ?_
  refine r_iconst (pc := 2) (v := 1) h dJ6_bitCount_0f7a4_2 (by decide) ?_
  refine r_iushr (pc := 3) h dJ6_bitCount_0f7a4_3 ?_
  refine r_ldcw (pc := 4) h dJ6_bitCount_0f7a4_4 wc_J6_265 ?_
  refine r_iand (pc := 7) h dJ6_bitCount_0f7a4_7 ?_
  refine r_isub (pc := 8) h dJ6_bitCount_0f7a4_8 ?_
  refine r_istore_n (pc := 9) (L' := [some (.inl (l0 - ((jushr l0 1) &&& 1431655765)))]) h dJ6_bitCount_0f7a4_9 (by decide) rfl ?_
  refine r_iload_n (pc := 10) h dJ6_bitCount_0f7a4_10 rfl ?_
  refine r_ldcw (pc := 11) h dJ6_bitCount_0f7a4_11 wc_J6_266 ?_
  refine r_iand (pc := 14) h dJ6_bitCount_0f7a4_14 ?_
  refine r_iload_n (pc := 15) h dJ6_bitCount_0f7a4_15 rfl ?_
  refine r_iconst (pc := 16) (v := 2) h dJ6_bitCount_0f7a4_16 (by decide) ?_
  refine r_iushr (pc := 17) h dJ6_bitCount_0f7a4_17 ?_
  refine r_ldcw (pc := 18) h dJ6_bitCount_0f7a4_18 wc_J6_266 ?_
  refine r_iand (pc := 21) h dJ6_bitCount_0f7a4_21 ?_
  refine r_iadd (pc := 22) h dJ6_bitCount_0f7a4_22 ?_
  refine r_istore_n (pc := 23) (L' := [some (.inl (((l0 - ((jushr l0 1) &&& 1431655765)) &&& 858993459) + ((jushr (l0 - ((jushr l0 1) &&& 1431655765)) 2) &&& 858993459)))]) h dJ6_bitCount_0f7a4_23 (by decide) rfl ?_
  refine r_iload_n (pc := 24) h dJ6_bitCount_0f7a4_24 rfl ?_
  refine r_iload_n (pc := 25) h dJ6_bitCount_0f7a4_25 rfl ?_
  refine r_iconst (pc := 26) (v := 4) h dJ6_bitCount_0f7a4_26 (by decide) ?_
  refine r_iushr (pc := 27) h dJ6_bitCount_0f7a4_27 ?_
  refine r_iadd (pc := 28) h dJ6_bitCount_0f7a4_28 ?_
  refine r_ldcw (pc := 29) h dJ6_bitCount_0f7a4_29 wc_J6_267 ?_
  refine r_iand (pc := 32) h dJ6_bitCount_0f7a4_32 ?_
  refine r_istore_n (pc := 33) (L' := [some (.inl (((((l0 - ((jushr l0 1) &&& 1431655765)) &&& 858993459) + ((jushr (l0 - ((jushr l0 1) &&& 1431655765)) 2) &&& 858993459)) + (jushr (((l0 - ((jushr l0 1) &&& 1431655765)) &&& 858993459) + ((jushr (l0 - ((jushr l0 1) &&& 1431655765)) 2) &&& 858993459)) 4)) &&& 252645135))]) h dJ6_bitCount_0f7a4_33 (by decide) rfl ?_
  refine r_iload_n (pc := 34) h dJ6_bitCount_0f7a4_34 rfl ?_
  refine r_iload_n (pc := 35) h dJ6_bitCount_0f7a4_35 rfl ?_
  refine r_bipush (pc := 36) (v := 8) h dJ6_bitCount_0f7a4_36 (by decide) ?_
  refine r_iushr (pc := 38) h dJ6_bitCount_0f7a4_38 ?_
  refine r_iadd (pc := 39) h dJ6_bitCount_0f7a4_39 ?_
  refine r_istore_n (pc := 40) (L' := [some (.inl ((((((l0 - ((jushr l0 1) &&& 1431655765)) &&& 858993459) + ((jushr (l0 - ((jushr l0 1) &&& 1431655765)) 2) &&& 858993459)) + (jushr (((l0 - ((jushr l0 1) &&& 1431655765)) &&& 858993459) + ((jushr (l0 - ((jushr l0 1) &&& 1431655765)) 2) &&& 858993459)) 4)) &&& 252645135) + (jushr (((((l0 - ((jushr l0 1) &&& 1431655765)) &&& 858993459) + ((jushr (l0 - ((jushr l0 1) &&& 1431655765)) 2) &&& 858993459)) + (jushr (((l0 - ((jushr l0 1) &&& 1431655765)) &&& 858993459) + ((jushr (l0 - ((jushr l0 1) &&& 1431655765)) 2) &&& 858993459)) 4)) &&& 252645135) 8)))]) h dJ6_bitCount_0f7a4_40 (by decide) rfl ?_
  refine r_iload_n (pc := 41) h dJ6_bitCount_0f7a4_41 rfl ?_
  refine r_iload_n (pc := 42) h dJ6_bitCount_0f7a4_42 rfl ?_
  refine r_bipush (pc := 43) (v := 16) h dJ6_bitCount_0f7a4_43 (by decide) ?_
  refine r_iushr (pc := 45) h dJ6_bitCount_0f7a4_45 ?_
  refine r_iadd (pc := 46) h dJ6_bitCount_0f7a4_46 ?_
  refine r_istore_n (pc := 47) (L' := [some (.inl (((((((l0 - ((jushr l0 1) &&& 1431655765)) &&& 858993459) + ((jushr (l0 - ((jushr l0 1) &&& 1431655765)) 2) &&& 858993459)) + (jushr (((l0 - ((jushr l0 1) &&& 1431655765)) &&& 858993459) + ((jushr (l0 - ((jushr l0 1) &&& 1431655765)) 2) &&& 858993459)) 4)) &&& 252645135) + (jushr (((((l0 - ((jushr l0 1) &&& 1431655765)) &&& 858993459) + ((jushr (l0 - ((jushr l0 1) &&& 1431655765)) 2) &&& 858993459)) + (jushr (((l0 - ((jushr l0 1) &&& 1431655765)) &&& 858993459) + ((jushr (l0 - ((jushr l0 1) &&& 1431655765)) 2) &&& 858993459)) 4)) &&& 252645135) 8)) + (jushr ((((((l0 - ((jushr l0 1) &&& 1431655765)) &&& 858993459) + ((jushr (l0 - ((jushr l0 1) &&& 1431655765)) 2) &&& 858993459)) + (jushr (((l0 - ((jushr l0 1) &&& 1431655765)) &&& 858993459) + ((jushr (l0 - ((jushr l0 1) &&& 1431655765)) 2) &&& 858993459)) 4)) &&& 252645135) + (jushr (((((l0 - ((jushr l0 1) &&& 1431655765)) &&& 858993459) + ((jushr (l0 - ((jushr l0 1) &&& 1431655765)) 2) &&& 858993459)) + (jushr (((l0 - ((jushr l0 1) &&& 1431655765)) &&& 858993459) + ((jushr (l0 - ((jushr l0 1) &&& 1431655765)) 2) &&& 858993459)) 4)) &&& 252645135) 8)) 16)))]) h dJ6_bitCount_0f7a4_47 (by decide) rfl ?_
  refine r_iload_n (pc := 48) h dJ6_bitCount_0f7a4_48 rfl ?_
  refine r_bipush (pc := 49) (v := 63) h dJ6_bitCount_0f7a4_49 (by decide) ?_
  refine r_iand (pc := 51) h dJ6_bitCount_0f7a4_51 ?_
  have hf := Option.some.inj hf
  subst hf
  exact hr 52 _ dJ6_bitCount_0f7a4_52
theorem c_J6_bitCount {u : St} {l0 : Int32} {r : Int32} (hf : f_J6_bitCount u l0 = some r) : CtI shX yJ6_bitCount_0f7a4 cJ6_bitCount_0f7a4 1 (some .int) rm_J6_bitCount [.inl l0] u r u := ct_I (by decide +kernel) (Nat.le_of_ble_eq_true rfl) (fun K E h hr => w_J6_bitCount_0 h hr _ hf)
set_option maxRecDepth 100000 in
set_option maxHeartbeats 4000000 in
theorem w_X6_told_74 {K : Kx} {E : Ex} (h : Ok shX K E RX6 cX6_told 6 rm_X6_told) {r : Int32 × St} (hr : RetI shX K E cX6_told 6 r.1 r.2) (u : St) (l4 s0 : Int32) (hf : f_X6_told_74 u l4 s0 = some r) : Vd shX K E 6 74 [none, none, none, none, some (.inl l4), none] [.inl s0] u := by
  refine r_istore (pc := 74) (L' := [none, none, none, none, some (.inl l4), some (.inl s0)]) h dX6_told_74 (by decide) rfl ?_
  refine r_iload (pc := 76) h dX6_told_76 rfl ?_
  refine r_iconst (pc := 78) (v := 2) h dX6_told_78 (by decide) ?_
  refine p_ite hf (fun hc1 hf => ?_) (fun hc1 hf => ?_)
  · refine r_icmp_ge (pc := 79) (tgt := 90) h dX6_told_79 (by decide) (fun _ => ?_) (fun q => absurd hc1 q)
    refine r_iload (pc := 90) h dX6_told_90 rfl ?_
    have hf := Option.some.inj hf
    subst hf
    exact hr 92 _ dX6_told_92
  · refine r_icmp_ge (pc := 79) (tgt := 90) h dX6_told_79 (by decide) (fun q => absurd q hc1) (fun _ => ?_)
    refine r_iload (pc := 82) h dX6_told_82 rfl ?_
    refine p_b hf (fun q2 e3 hf => ?_)
    refine r_cSi (pc := 84) (st := []) h [.inl s0] cs_J6_bitCount_0f7a4 wm_X6_127 (c_J6_bitCount e3) ⟨rfl, rfl, Nat.le_of_ble_eq_true rfl, Nat.le_of_ble_eq_true rfl⟩ (Nat.le_of_ble_eq_true rfl) dX6_told_84 ?_
    refine r_goto (pc := 87) (tgt := 92) h dX6_told_87 (by decide) ?_
    have hf := Option.some.inj hf
    subst hf
    exact hr 92 _ dX6_told_92
set_option maxRecDepth 100000 in
set_option maxHeartbeats 4000000 in
theorem w_X6_told_0 {K : Kx} {E : Ex} (h : Ok shX K E RX6 cX6_told 6 rm_X6_told) {r : Int32 × St} (hr : RetI shX K E cX6_told 6 r.1 r.2) (u : St) (l1 l2 l3 l4 : Int32) (hf : f_X6_told u l1 l2 l3 l4 = some r) : Vd shX K E 6 0 [some (.inr 0), some (.inl l1), some (.inl l2), some (.inl l3), some (.inl l4), none] [] u := by
  refine r_aload_n (pc := 0) h dX6_told_0 rfl ?_
  refine r_iload_n (pc := 1) h dX6_told_1 rfl ?_
  refine r_iload_n (pc := 2) h dX6_told_2 rfl ?_
  refine r_iload_n (pc := 3) h dX6_told_3 rfl ?_
  refine p_b hf (fun q4 e5 hf => ?_)
  refine r_cVi (pc := 4) (k := 0) (st := []) h [.inl l1, .inl l2, .inl l3] cv_X6_isChange wm_X6_111 (c_X6_isChange e5) ⟨rfl, rfl, Nat.le_of_ble_eq_true rfl, Nat.le_of_ble_eq_true rfl⟩ hshX_0 rfl rfl (Nat.le_of_ble_eq_true rfl) dX6_told_4 ?_
  refine p_ite hf (fun hc6 hf => ?_) (fun hc6 hf => ?_)
  · refine r_if_eq (pc := 7) (tgt := 20) h dX6_told_7 (by decide) (fun _ => ?_) (fun q => absurd hc6 q)
    refine r_aload_n (pc := 20) h dX6_told_20 rfl ?_
    refine r_iconst (pc := 21) (v := 1) h dX6_told_21 (by decide) ?_
    refine p_b hf (fun q7 e8 hf => ?_)
    refine r_cVi (pc := 22) (k := 0) (st := []) h [.inl 1] cv_X6_finding wm_X6_72 (c_X6_finding e8) ⟨rfl, rfl, Nat.le_of_ble_eq_true rfl, Nat.le_of_ble_eq_true rfl⟩ hshX_0 rfl rfl (Nat.le_of_ble_eq_true rfl) dX6_told_22 ?_
    have hf := Option.some.inj hf
    subst hf
    exact hr 25 _ dX6_told_25
  · refine r_if_eq (pc := 7) (tgt := 20) h dX6_told_7 (by decide) (fun q => absurd q hc6) (fun _ => ?_)
    refine r_iload (pc := 10) h dX6_told_10 rfl ?_
    refine r_iconst (pc := 12) (v := 0) h dX6_told_12 (by decide) ?_
    refine r_iconst (pc := 13) (v := 3) h dX6_told_13 (by decide) ?_
    refine p_b hf (fun q9 e10 hf => ?_)
    refine r_cSi (pc := 14) (st := []) h [.inl l4, .inl 0, .inl 3] cs_X6_isWithin wm_X6_88 (c_X6_isWithin e10) ⟨rfl, rfl, Nat.le_of_ble_eq_true rfl, Nat.le_of_ble_eq_true rfl⟩ (Nat.le_of_ble_eq_true rfl) dX6_told_14 ?_
    refine p_ite hf (fun hc11 hf => ?_) (fun hc11 hf => ?_)
    · refine r_if_ne (pc := 17) (tgt := 26) h dX6_told_17 (by decide) (fun q => absurd hc11 q) (fun _ => ?_)
      refine r_aload_n (pc := 20) h dX6_told_20 rfl ?_
      refine r_iconst (pc := 21) (v := 1) h dX6_told_21 (by decide) ?_
      refine p_b hf (fun q20 e21 hf => ?_)
      refine r_cVi (pc := 22) (k := 0) (st := []) h [.inl 1] cv_X6_finding wm_X6_72 (c_X6_finding e21) ⟨rfl, rfl, Nat.le_of_ble_eq_true rfl, Nat.le_of_ble_eq_true rfl⟩ hshX_0 rfl rfl (Nat.le_of_ble_eq_true rfl) dX6_told_22 ?_
      have hf := Option.some.inj hf
      subst hf
      exact hr 25 _ dX6_told_25
    · refine r_if_ne (pc := 17) (tgt := 26) h dX6_told_17 (by decide) (fun _ => ?_) (fun q => absurd q hc11)
      refine r_aload_n (pc := 26) h dX6_told_26 rfl ?_
      refine r_iload_n (pc := 27) h dX6_told_27 rfl ?_
      refine r_iload_n (pc := 28) h dX6_told_28 rfl ?_
      refine r_iload_n (pc := 29) h dX6_told_29 rfl ?_
      refine p_b hf (fun q12 e13 hf => ?_)
      refine r_cVi (pc := 30) (k := 0) (st := []) h [.inl l1, .inl l2, .inl l3] cv_X6_isAllowed wm_X6_114 (c_X6_isAllowed e13) ⟨rfl, rfl, Nat.le_of_ble_eq_true rfl, Nat.le_of_ble_eq_true rfl⟩ hshX_0 rfl rfl (Nat.le_of_ble_eq_true rfl) dX6_told_30 ?_
      refine p_ite hf (fun hc14 hf => ?_) (fun hc14 hf => ?_)
      · refine r_if_ne (pc := 33) (tgt := 42) h dX6_told_33 (by decide) (fun q => absurd hc14 q) (fun _ => ?_)
        refine r_aload_n (pc := 36) h dX6_told_36 rfl ?_
        refine r_iconst (pc := 37) (v := 3) h dX6_told_37 (by decide) ?_
        refine p_b hf (fun q18 e19 hf => ?_)
        refine r_cVi (pc := 38) (k := 0) (st := []) h [.inl 3] cv_X6_finding wm_X6_72 (c_X6_finding e19) ⟨rfl, rfl, Nat.le_of_ble_eq_true rfl, Nat.le_of_ble_eq_true rfl⟩ hshX_0 rfl rfl (Nat.le_of_ble_eq_true rfl) dX6_told_38 ?_
        have hf := Option.some.inj hf
        subst hf
        exact hr 41 _ dX6_told_41
      · refine r_if_ne (pc := 33) (tgt := 42) h dX6_told_33 (by decide) (fun _ => ?_) (fun q => absurd q hc14)
        refine r_aload_n (pc := 42) h dX6_told_42 rfl ?_
        refine gf_X6_28 (pc := 43) h dX6_told_43 ?_
        refine r_iload_n (pc := 46) h dX6_told_46 rfl ?_
        refine p_b hf (fun q15 e16 hf => ?_)
        refine r_cVv (pc := 47) (k := 7) (st := []) h [.inl l3] cv_X1_handle wm_X6_117 (c_X1_handle e16) ⟨rfl, rfl, Nat.le_of_ble_eq_true rfl, Nat.le_of_ble_eq_true rfl⟩ hshX_7 rfl rfl (Nat.le_of_ble_eq_true rfl) dX6_told_47 ?_
        refine r_iload (pc := 50) h dX6_told_50 rfl ?_
        refine r_iconst (pc := 52) (v := 2) h dX6_told_52 (by decide) ?_
        refine r_irem (pc := 53) h dX6_told_53 (by decide) ?_
        refine p_ite hf (fun hc17 hf => ?_) (fun hc17 hf => ?_)
        · refine r_if_ne (pc := 54) (tgt := 67) h dX6_told_54 (by decide) (fun q => absurd hc17 q) (fun _ => ?_)
          refine r_aload_n (pc := 57) h dX6_told_57 rfl ?_
          refine gf_X6_28 (pc := 58) h dX6_told_58 ?_
          refine gf_X6_121 (pc := 61) (v := (q15 7 14)) h rfl dX6_told_61 ?_
          refine r_goto (pc := 64) (tgt := 74) h dX6_told_64 (by decide) ?_
          refine r_le [none, none, none, none, some (.inl l4), none] ⟨rfl, trivial⟩ ?_
          exact w_X6_told_74 h hr _ _ _ hf
        · refine r_if_ne (pc := 54) (tgt := 67) h dX6_told_54 (by decide) (fun _ => ?_) (fun q => absurd q hc17)
          refine r_aload_n (pc := 67) h dX6_told_67 rfl ?_
          refine gf_X6_28 (pc := 68) h dX6_told_68 ?_
          refine gf_X6_124 (pc := 71) (v := (q15 7 15)) h rfl dX6_told_71 ?_
          refine r_le [none, none, none, none, some (.inl l4), none] ⟨rfl, trivial⟩ ?_
          exact w_X6_told_74 h hr _ _ _ hf
theorem c_X6_told {u : St} {l1 l2 l3 l4 : Int32} {r : Int32 × St} (hf : f_X6_told u l1 l2 l3 l4 = some r) : CtI shX yX6_told cX6_told 6 (some .int) rm_X6_told [.inr 0, .inl l1, .inl l2, .inl l3, .inl l4] u r.1 r.2 := ct_I (by decide +kernel) (Nat.le_of_ble_eq_true rfl) (fun K E h hr => w_X6_told_0 h hr _ _ _ _ _ hf)
set_option maxRecDepth 100000 in
set_option maxHeartbeats 4000000 in
theorem w_X1_sumOf_13_5 {K : Kx} {E : Ex} (h : Ok shX K E RX1 cX1_sumOf 5 rm_X1_sumOf_13) {r : Int32} {u : St} (hr : RetI shX K E cX1_sumOf 5 r u) : ∀ (n : Nat) (l1 l2 l3 l4 : Int32), f_X1_sumOf_13_5 u n l1 l2 l3 l4 = some r → Vd shX K E 5 5 [some (.inr 13), some (.inl l1), some (.inl l2), some (.inl l3), some (.inl l4)] [] u := by
  intro n
  induction n with
  | zero => intro l1 l2 l3 l4 hf; cases hf
  | succ n ih =>
    intro l1 l2 l3 l4 hf
    refine r_iload (pc := 5) h dX1_sumOf_5 rfl ?_
    refine r_iload_n (pc := 7) h dX1_sumOf_7 rfl ?_
    refine p_ite hf (fun hc1 hf => ?_) (fun hc1 hf => ?_)
    · refine r_icmp_ge (pc := 8) (tgt := 40) h dX1_sumOf_8 (by decide) (fun _ => ?_) (fun q => absurd hc1 q)
      refine r_iload_n (pc := 40) h dX1_sumOf_40 rfl ?_
      have hf := Option.some.inj hf
      subst hf
      exact hr 41 _ dX1_sumOf_41
    · refine r_icmp_ge (pc := 8) (tgt := 40) h dX1_sumOf_8 (by decide) (fun q => absurd q hc1) (fun _ => ?_)
      refine r_iload (pc := 11) h dX1_sumOf_11 rfl ?_
      refine r_aload_n (pc := 13) h dX1_sumOf_13 rfl ?_
      refine r_alen (pc := 14) (k := 13) (v := 8) h hshX_13 (by decide) dX1_sumOf_14 ?_
      refine p_ite hf (fun hc2 hf => ?_) (fun hc2 hf => ?_)
      · refine r_icmp_ge (pc := 15) (tgt := 40) h dX1_sumOf_15 (by decide) (fun _ => ?_) (fun q => absurd hc2 q)
        refine r_iload_n (pc := 40) h dX1_sumOf_40 rfl ?_
        have hf := Option.some.inj hf
        subst hf
        exact hr 41 _ dX1_sumOf_41
      · refine r_icmp_ge (pc := 15) (tgt := 40) h dX1_sumOf_15 (by decide) (fun q => absurd q hc2) (fun _ => ?_)
        refine r_iload_n (pc := 18) h dX1_sumOf_18 rfl ?_
        refine r_iload (pc := 19) h dX1_sumOf_19 rfl ?_
        refine p_b hf (fun q3 e4 hf => ?_)
        refine r_cNi (pc := 21) (st := []) h [.inl l2, .inl l4] cs_X6_hasBit nm_X1_97 (c_X6_hasBit e4) ⟨rfl, rfl, Nat.le_of_ble_eq_true rfl, Nat.le_of_ble_eq_true rfl⟩ (Nat.le_of_ble_eq_true rfl) dX1_sumOf_21 ?_
        refine p_ite hf (fun hc5 hf => ?_) (fun hc5 hf => ?_)
        · refine r_if_eq (pc := 24) (tgt := 34) h dX1_sumOf_24 (by decide) (fun _ => ?_) (fun q => absurd hc5 q)
          refine r_iinc (pc := 34) (v := (l4 + 1)) (L' := [some (.inr 13), some (.inl l1), some (.inl l2), some (.inl l3), some (.inl (l4 + 1))]) h dX1_sumOf_34 rfl rfl (by decide) rfl ?_
          refine r_goto (pc := 37) (tgt := 5) h dX1_sumOf_37 (by decide) ?_
          exact ih _ _ _ _ hf
        · refine r_if_eq (pc := 24) (tgt := 34) h dX1_sumOf_24 (by decide) (fun q => absurd q hc5) (fun _ => ?_)
          refine r_iload_n (pc := 27) h dX1_sumOf_27 rfl ?_
          refine r_aload_n (pc := 28) h dX1_sumOf_28 rfl ?_
          refine r_iload (pc := 29) h dX1_sumOf_29 rfl ?_
          refine p_g hf (fun hi6 hf => ?_)
          refine r_iald (pc := 31) (k := 13) (v := (u 13 l4.toNatClampNeg)) h hshX_13 hi6 rfl dX1_sumOf_31 ?_
          refine r_iadd (pc := 32) h dX1_sumOf_32 ?_
          refine r_istore_n (pc := 33) (L' := [some (.inr 13), some (.inl l1), some (.inl l2), some (.inl (l3 + (u 13 l4.toNatClampNeg))), some (.inl l4)]) h dX1_sumOf_33 (by decide) rfl ?_
          refine r_iinc (pc := 34) (v := (l4 + 1)) (L' := [some (.inr 13), some (.inl l1), some (.inl l2), some (.inl (l3 + (u 13 l4.toNatClampNeg))), some (.inl (l4 + 1))]) h dX1_sumOf_34 rfl rfl (by decide) rfl ?_
          refine r_goto (pc := 37) (tgt := 5) h dX1_sumOf_37 (by decide) ?_
          exact ih _ _ _ _ hf
set_option maxRecDepth 100000 in
set_option maxHeartbeats 4000000 in
theorem w_X1_sumOf_13_0 {K : Kx} {E : Ex} (h : Ok shX K E RX1 cX1_sumOf 5 rm_X1_sumOf_13) {r : Int32} {u : St} (hr : RetI shX K E cX1_sumOf 5 r u) (l1 l2 : Int32) (hf : f_X1_sumOf_13 u l1 l2 = some r) : Vd shX K E 5 0 [some (.inr 13), some (.inl l1), some (.inl l2), none, none] [] u := by
  refine r_iconst (pc := 0) (v := 0) h dX1_sumOf_0 (by decide) ?_
  refine r_istore_n (pc := 1) (L' := [some (.inr 13), some (.inl l1), some (.inl l2), some (.inl 0), none]) h dX1_sumOf_1 (by decide) rfl ?_
  refine r_iconst (pc := 2) (v := 0) h dX1_sumOf_2 (by decide) ?_
  refine r_istore (pc := 3) (L' := [some (.inr 13), some (.inl l1), some (.inl l2), some (.inl 0), some (.inl 0)]) h dX1_sumOf_3 (by decide) rfl ?_
  exact w_X1_sumOf_13_5 h hr FU _ _ _ _ hf
theorem c_X1_sumOf_13 {u : St} {l1 l2 : Int32} {r : Int32} (hf : f_X1_sumOf_13 u l1 l2 = some r) : CtI shX yX1_sumOf cX1_sumOf 5 (some .int) rm_X1_sumOf_13 [.inr 13, .inl l1, .inl l2] u r u := ct_I (by decide +kernel) (Nat.le_of_ble_eq_true rfl) (fun K E h hr => w_X1_sumOf_13_0 h hr _ _ hf)
set_option maxRecDepth 100000 in
set_option maxHeartbeats 4000000 in
theorem w_X1_sumOf_14_5 {K : Kx} {E : Ex} (h : Ok shX K E RX1 cX1_sumOf 5 rm_X1_sumOf_14) {r : Int32} {u : St} (hr : RetI shX K E cX1_sumOf 5 r u) : ∀ (n : Nat) (l1 l2 l3 l4 : Int32), f_X1_sumOf_14_5 u n l1 l2 l3 l4 = some r → Vd shX K E 5 5 [some (.inr 14), some (.inl l1), some (.inl l2), some (.inl l3), some (.inl l4)] [] u := by
  intro n
  induction n with
  | zero => intro l1 l2 l3 l4 hf; cases hf
  | succ n ih =>
    intro l1 l2 l3 l4 hf
    refine r_iload (pc := 5) h dX1_sumOf_5 rfl ?_
    refine r_iload_n (pc := 7) h dX1_sumOf_7 rfl ?_
    refine p_ite hf (fun hc1 hf => ?_) (fun hc1 hf => ?_)
    · refine r_icmp_ge (pc := 8) (tgt := 40) h dX1_sumOf_8 (by decide) (fun _ => ?_) (fun q => absurd hc1 q)
      refine r_iload_n (pc := 40) h dX1_sumOf_40 rfl ?_
      have hf := Option.some.inj hf
      subst hf
      exact hr 41 _ dX1_sumOf_41
    · refine r_icmp_ge (pc := 8) (tgt := 40) h dX1_sumOf_8 (by decide) (fun q => absurd q hc1) (fun _ => ?_)
      refine r_iload (pc := 11) h dX1_sumOf_11 rfl ?_
      refine r_aload_n (pc := 13) h dX1_sumOf_13 rfl ?_
      refine r_alen (pc := 14) (k := 14) (v := 8) h hshX_14 (by decide) dX1_sumOf_14 ?_
      refine p_ite hf (fun hc2 hf => ?_) (fun hc2 hf => ?_)
      · refine r_icmp_ge (pc := 15) (tgt := 40) h dX1_sumOf_15 (by decide) (fun _ => ?_) (fun q => absurd hc2 q)
        refine r_iload_n (pc := 40) h dX1_sumOf_40 rfl ?_
        have hf := Option.some.inj hf
        subst hf
        exact hr 41 _ dX1_sumOf_41
      · refine r_icmp_ge (pc := 15) (tgt := 40) h dX1_sumOf_15 (by decide) (fun q => absurd q hc2) (fun _ => ?_)
        refine r_iload_n (pc := 18) h dX1_sumOf_18 rfl ?_
        refine r_iload (pc := 19) h dX1_sumOf_19 rfl ?_
        refine p_b hf (fun q3 e4 hf => ?_)
        refine r_cNi (pc := 21) (st := []) h [.inl l2, .inl l4] cs_X6_hasBit nm_X1_97 (c_X6_hasBit e4) ⟨rfl, rfl, Nat.le_of_ble_eq_true rfl, Nat.le_of_ble_eq_true rfl⟩ (Nat.le_of_ble_eq_true rfl) dX1_sumOf_21 ?_
        refine p_ite hf (fun hc5 hf => ?_) (fun hc5 hf => ?_)
        · refine r_if_eq (pc := 24) (tgt := 34) h dX1_sumOf_24 (by decide) (fun _ => ?_) (fun q => absurd hc5 q)
          refine r_iinc (pc := 34) (v := (l4 + 1)) (L' := [some (.inr 14), some (.inl l1), some (.inl l2), some (.inl l3), some (.inl (l4 + 1))]) h dX1_sumOf_34 rfl rfl (by decide) rfl ?_
          refine r_goto (pc := 37) (tgt := 5) h dX1_sumOf_37 (by decide) ?_
          exact ih _ _ _ _ hf
        · refine r_if_eq (pc := 24) (tgt := 34) h dX1_sumOf_24 (by decide) (fun q => absurd q hc5) (fun _ => ?_)
          refine r_iload_n (pc := 27) h dX1_sumOf_27 rfl ?_
          refine r_aload_n (pc := 28) h dX1_sumOf_28 rfl ?_
          refine r_iload (pc := 29) h dX1_sumOf_29 rfl ?_
          refine p_g hf (fun hi6 hf => ?_)
          refine r_iald (pc := 31) (k := 14) (v := (u 14 l4.toNatClampNeg)) h hshX_14 hi6 rfl dX1_sumOf_31 ?_
          refine r_iadd (pc := 32) h dX1_sumOf_32 ?_
          refine r_istore_n (pc := 33) (L' := [some (.inr 14), some (.inl l1), some (.inl l2), some (.inl (l3 + (u 14 l4.toNatClampNeg))), some (.inl l4)]) h dX1_sumOf_33 (by decide) rfl ?_
          refine r_iinc (pc := 34) (v := (l4 + 1)) (L' := [some (.inr 14), some (.inl l1), some (.inl l2), some (.inl (l3 + (u 14 l4.toNatClampNeg))), some (.inl (l4 + 1))]) h dX1_sumOf_34 rfl rfl (by decide) rfl ?_
          refine r_goto (pc := 37) (tgt := 5) h dX1_sumOf_37 (by decide) ?_
          exact ih _ _ _ _ hf
set_option maxRecDepth 100000 in
set_option maxHeartbeats 4000000 in
theorem w_X1_sumOf_14_0 {K : Kx} {E : Ex} (h : Ok shX K E RX1 cX1_sumOf 5 rm_X1_sumOf_14) {r : Int32} {u : St} (hr : RetI shX K E cX1_sumOf 5 r u) (l1 l2 : Int32) (hf : f_X1_sumOf_14 u l1 l2 = some r) : Vd shX K E 5 0 [some (.inr 14), some (.inl l1), some (.inl l2), none, none] [] u := by
  refine r_iconst (pc := 0) (v := 0) h dX1_sumOf_0 (by decide) ?_
  refine r_istore_n (pc := 1) (L' := [some (.inr 14), some (.inl l1), some (.inl l2), some (.inl 0), none]) h dX1_sumOf_1 (by decide) rfl ?_
  refine r_iconst (pc := 2) (v := 0) h dX1_sumOf_2 (by decide) ?_
  refine r_istore (pc := 3) (L' := [some (.inr 14), some (.inl l1), some (.inl l2), some (.inl 0), some (.inl 0)]) h dX1_sumOf_3 (by decide) rfl ?_
  exact w_X1_sumOf_14_5 h hr FU _ _ _ _ hf
theorem c_X1_sumOf_14 {u : St} {l1 l2 : Int32} {r : Int32} (hf : f_X1_sumOf_14 u l1 l2 = some r) : CtI shX yX1_sumOf cX1_sumOf 5 (some .int) rm_X1_sumOf_14 [.inr 14, .inl l1, .inl l2] u r u := ct_I (by decide +kernel) (Nat.le_of_ble_eq_true rfl) (fun K E h hr => w_X1_sumOf_14_0 h hr _ _ hf)
set_option maxRecDepth 100000 in
set_option maxHeartbeats 4000000 in
theorem w_X1_mostOf_13_5 {K : Kx} {E : Ex} (h : Ok shX K E RX1 cX1_mostOf 5 rm_X1_mostOf_13) {r : Int32} {u : St} (hr : RetI shX K E cX1_mostOf 5 r u) : ∀ (n : Nat) (l1 l2 l3 l4 : Int32), f_X1_mostOf_13_5 u n l1 l2 l3 l4 = some r → Vd shX K E 5 5 [some (.inr 13), some (.inl l1), some (.inl l2), some (.inl l3), some (.inl l4)] [] u := by
  intro n
  induction n with
  | zero => intro l1 l2 l3 l4 hf; cases hf
  | succ n ih =>
    intro l1 l2 l3 l4 hf
    refine r_iload (pc := 5) h dX1_mostOf_5 rfl ?_
    refine r_iload_n (pc := 7) h dX1_mostOf_7 rfl ?_
    refine p_ite hf (fun hc1 hf => ?_) (fun hc1 hf => ?_)
    · refine r_icmp_ge (pc := 8) (tgt := 42) h dX1_mostOf_8 (by decide) (fun _ => ?_) (fun q => absurd hc1 q)
      refine r_iload_n (pc := 42) h dX1_mostOf_42 rfl ?_
      have hf := Option.some.inj hf
      subst hf
      exact hr 43 _ dX1_mostOf_43
    · refine r_icmp_ge (pc := 8) (tgt := 42) h dX1_mostOf_8 (by decide) (fun q => absurd q hc1) (fun _ => ?_)
      refine r_iload (pc := 11) h dX1_mostOf_11 rfl ?_
      refine r_aload_n (pc := 13) h dX1_mostOf_13 rfl ?_
      refine r_alen (pc := 14) (k := 13) (v := 8) h hshX_13 (by decide) dX1_mostOf_14 ?_
      refine p_ite hf (fun hc2 hf => ?_) (fun hc2 hf => ?_)
      · refine r_icmp_ge (pc := 15) (tgt := 42) h dX1_mostOf_15 (by decide) (fun _ => ?_) (fun q => absurd hc2 q)
        refine r_iload_n (pc := 42) h dX1_mostOf_42 rfl ?_
        have hf := Option.some.inj hf
        subst hf
        exact hr 43 _ dX1_mostOf_43
      · refine r_icmp_ge (pc := 15) (tgt := 42) h dX1_mostOf_15 (by decide) (fun q => absurd q hc2) (fun _ => ?_)
        refine r_iload_n (pc := 18) h dX1_mostOf_18 rfl ?_
        refine r_iload (pc := 19) h dX1_mostOf_19 rfl ?_
        refine p_b hf (fun q3 e4 hf => ?_)
        refine r_cNi (pc := 21) (st := []) h [.inl l2, .inl l4] cs_X6_hasBit nm_X1_97 (c_X6_hasBit e4) ⟨rfl, rfl, Nat.le_of_ble_eq_true rfl, Nat.le_of_ble_eq_true rfl⟩ (Nat.le_of_ble_eq_true rfl) dX1_mostOf_21 ?_
        refine p_ite hf (fun hc5 hf => ?_) (fun hc5 hf => ?_)
        · refine r_if_eq (pc := 24) (tgt := 36) h dX1_mostOf_24 (by decide) (fun _ => ?_) (fun q => absurd hc5 q)
          refine r_iinc (pc := 36) (v := (l4 + 1)) (L' := [some (.inr 13), some (.inl l1), some (.inl l2), some (.inl l3), some (.inl (l4 + 1))]) h dX1_mostOf_36 rfl rfl (by decide) rfl ?_
          refine r_goto (pc := 39) (tgt := 5) h dX1_mostOf_39 (by decide) ?_
          exact ih _ _ _ _ hf
        · refine r_if_eq (pc := 24) (tgt := 36) h dX1_mostOf_24 (by decide) (fun q => absurd q hc5) (fun _ => ?_)
          refine r_iload_n (pc := 27) h dX1_mostOf_27 rfl ?_
          refine r_aload_n (pc := 28) h dX1_mostOf_28 rfl ?_
          refine r_iload (pc := 29) h dX1_mostOf_29 rfl ?_
          refine p_g hf (fun hi6 hf => ?_)
          refine r_iald (pc := 31) (k := 13) (v := (u 13 l4.toNatClampNeg)) h hshX_13 hi6 rfl dX1_mostOf_31 ?_
          refine r_mmax (pc := 32) (st := []) h wm_X1_136 ⟨Nat.le_of_ble_eq_true rfl, Nat.le_of_ble_eq_true rfl⟩ dX1_mostOf_32 ?_
          refine r_istore_n (pc := 35) (L' := [some (.inr 13), some (.inl l1), some (.inl l2), some (.inl (jmax l3 (u 13 l4.toNatClampNeg))), some (.inl l4)]) h dX1_mostOf_35 (by decide) rfl ?_
          refine r_iinc (pc := 36) (v := (l4 + 1)) (L' := [some (.inr 13), some (.inl l1), some (.inl l2), some (.inl (jmax l3 (u 13 l4.toNatClampNeg))), some (.inl (l4 + 1))]) h dX1_mostOf_36 rfl rfl (by decide) rfl ?_
          refine r_goto (pc := 39) (tgt := 5) h dX1_mostOf_39 (by decide) ?_
          exact ih _ _ _ _ hf
set_option maxRecDepth 100000 in
set_option maxHeartbeats 4000000 in
theorem w_X1_mostOf_13_0 {K : Kx} {E : Ex} (h : Ok shX K E RX1 cX1_mostOf 5 rm_X1_mostOf_13) {r : Int32} {u : St} (hr : RetI shX K E cX1_mostOf 5 r u) (l1 l2 : Int32) (hf : f_X1_mostOf_13 u l1 l2 = some r) : Vd shX K E 5 0 [some (.inr 13), some (.inl l1), some (.inl l2), none, none] [] u := by
  refine r_iconst (pc := 0) (v := 0) h dX1_mostOf_0 (by decide) ?_
  refine r_istore_n (pc := 1) (L' := [some (.inr 13), some (.inl l1), some (.inl l2), some (.inl 0), none]) h dX1_mostOf_1 (by decide) rfl ?_
  refine r_iconst (pc := 2) (v := 0) h dX1_mostOf_2 (by decide) ?_
  refine r_istore (pc := 3) (L' := [some (.inr 13), some (.inl l1), some (.inl l2), some (.inl 0), some (.inl 0)]) h dX1_mostOf_3 (by decide) rfl ?_
  exact w_X1_mostOf_13_5 h hr FU _ _ _ _ hf
theorem c_X1_mostOf_13 {u : St} {l1 l2 : Int32} {r : Int32} (hf : f_X1_mostOf_13 u l1 l2 = some r) : CtI shX yX1_mostOf cX1_mostOf 5 (some .int) rm_X1_mostOf_13 [.inr 13, .inl l1, .inl l2] u r u := ct_I (by decide +kernel) (Nat.le_of_ble_eq_true rfl) (fun K E h hr => w_X1_mostOf_13_0 h hr _ _ hf)
set_option maxRecDepth 100000 in
set_option maxHeartbeats 4000000 in
theorem w_X1_mostOf_14_5 {K : Kx} {E : Ex} (h : Ok shX K E RX1 cX1_mostOf 5 rm_X1_mostOf_14) {r : Int32} {u : St} (hr : RetI shX K E cX1_mostOf 5 r u) : ∀ (n : Nat) (l1 l2 l3 l4 : Int32), f_X1_mostOf_14_5 u n l1 l2 l3 l4 = some r → Vd shX K E 5 5 [some (.inr 14), some (.inl l1), some (.inl l2), some (.inl l3), some (.inl l4)] [] u := by
  intro n
  induction n with
  | zero => intro l1 l2 l3 l4 hf; cases hf
  | succ n ih =>
    intro l1 l2 l3 l4 hf
    refine r_iload (pc := 5) h dX1_mostOf_5 rfl ?_
    refine r_iload_n (pc := 7) h dX1_mostOf_7 rfl ?_
    refine p_ite hf (fun hc1 hf => ?_) (fun hc1 hf => ?_)
    · refine r_icmp_ge (pc := 8) (tgt := 42) h dX1_mostOf_8 (by decide) (fun _ => ?_) (fun q => absurd hc1 q)
      refine r_iload_n (pc := 42) h dX1_mostOf_42 rfl ?_
      have hf := Option.some.inj hf
      subst hf
      exact hr 43 _ dX1_mostOf_43
    · refine r_icmp_ge (pc := 8) (tgt := 42) h dX1_mostOf_8 (by decide) (fun q => absurd q hc1) (fun _ => ?_)
      refine r_iload (pc := 11) h dX1_mostOf_11 rfl ?_
      refine r_aload_n (pc := 13) h dX1_mostOf_13 rfl ?_
      refine r_alen (pc := 14) (k := 14) (v := 8) h hshX_14 (by decide) dX1_mostOf_14 ?_
      refine p_ite hf (fun hc2 hf => ?_) (fun hc2 hf => ?_)
      · refine r_icmp_ge (pc := 15) (tgt := 42) h dX1_mostOf_15 (by decide) (fun _ => ?_) (fun q => absurd hc2 q)
        refine r_iload_n (pc := 42) h dX1_mostOf_42 rfl ?_
        have hf := Option.some.inj hf
        subst hf
        exact hr 43 _ dX1_mostOf_43
      · refine r_icmp_ge (pc := 15) (tgt := 42) h dX1_mostOf_15 (by decide) (fun q => absurd q hc2) (fun _ => ?_)
        refine r_iload_n (pc := 18) h dX1_mostOf_18 rfl ?_
        refine r_iload (pc := 19) h dX1_mostOf_19 rfl ?_
        refine p_b hf (fun q3 e4 hf => ?_)
        refine r_cNi (pc := 21) (st := []) h [.inl l2, .inl l4] cs_X6_hasBit nm_X1_97 (c_X6_hasBit e4) ⟨rfl, rfl, Nat.le_of_ble_eq_true rfl, Nat.le_of_ble_eq_true rfl⟩ (Nat.le_of_ble_eq_true rfl) dX1_mostOf_21 ?_
        refine p_ite hf (fun hc5 hf => ?_) (fun hc5 hf => ?_)
        · refine r_if_eq (pc := 24) (tgt := 36) h dX1_mostOf_24 (by decide) (fun _ => ?_) (fun q => absurd hc5 q)
          refine r_iinc (pc := 36) (v := (l4 + 1)) (L' := [some (.inr 14), some (.inl l1), some (.inl l2), some (.inl l3), some (.inl (l4 + 1))]) h dX1_mostOf_36 rfl rfl (by decide) rfl ?_
          refine r_goto (pc := 39) (tgt := 5) h dX1_mostOf_39 (by decide) ?_
          exact ih _ _ _ _ hf
        · refine r_if_eq (pc := 24) (tgt := 36) h dX1_mostOf_24 (by decide) (fun q => absurd q hc5) (fun _ => ?_)
          refine r_iload_n (pc := 27) h dX1_mostOf_27 rfl ?_
          refine r_aload_n (pc := 28) h dX1_mostOf_28 rfl ?_
          refine r_iload (pc := 29) h dX1_mostOf_29 rfl ?_
          refine p_g hf (fun hi6 hf => ?_)
          refine r_iald (pc := 31) (k := 14) (v := (u 14 l4.toNatClampNeg)) h hshX_14 hi6 rfl dX1_mostOf_31 ?_
          refine r_mmax (pc := 32) (st := []) h wm_X1_136 ⟨Nat.le_of_ble_eq_true rfl, Nat.le_of_ble_eq_true rfl⟩ dX1_mostOf_32 ?_
          refine r_istore_n (pc := 35) (L' := [some (.inr 14), some (.inl l1), some (.inl l2), some (.inl (jmax l3 (u 14 l4.toNatClampNeg))), some (.inl l4)]) h dX1_mostOf_35 (by decide) rfl ?_
          refine r_iinc (pc := 36) (v := (l4 + 1)) (L' := [some (.inr 14), some (.inl l1), some (.inl l2), some (.inl (jmax l3 (u 14 l4.toNatClampNeg))), some (.inl (l4 + 1))]) h dX1_mostOf_36 rfl rfl (by decide) rfl ?_
          refine r_goto (pc := 39) (tgt := 5) h dX1_mostOf_39 (by decide) ?_
          exact ih _ _ _ _ hf
set_option maxRecDepth 100000 in
set_option maxHeartbeats 4000000 in
theorem w_X1_mostOf_14_0 {K : Kx} {E : Ex} (h : Ok shX K E RX1 cX1_mostOf 5 rm_X1_mostOf_14) {r : Int32} {u : St} (hr : RetI shX K E cX1_mostOf 5 r u) (l1 l2 : Int32) (hf : f_X1_mostOf_14 u l1 l2 = some r) : Vd shX K E 5 0 [some (.inr 14), some (.inl l1), some (.inl l2), none, none] [] u := by
  refine r_iconst (pc := 0) (v := 0) h dX1_mostOf_0 (by decide) ?_
  refine r_istore_n (pc := 1) (L' := [some (.inr 14), some (.inl l1), some (.inl l2), some (.inl 0), none]) h dX1_mostOf_1 (by decide) rfl ?_
  refine r_iconst (pc := 2) (v := 0) h dX1_mostOf_2 (by decide) ?_
  refine r_istore (pc := 3) (L' := [some (.inr 14), some (.inl l1), some (.inl l2), some (.inl 0), some (.inl 0)]) h dX1_mostOf_3 (by decide) rfl ?_
  exact w_X1_mostOf_14_5 h hr FU _ _ _ _ hf
theorem c_X1_mostOf_14 {u : St} {l1 l2 : Int32} {r : Int32} (hf : f_X1_mostOf_14 u l1 l2 = some r) : CtI shX yX1_mostOf cX1_mostOf 5 (some .int) rm_X1_mostOf_14 [.inr 14, .inl l1, .inl l2] u r u := ct_I (by decide +kernel) (Nat.le_of_ble_eq_true rfl) (fun K E h hr => w_X1_mostOf_14_0 h hr _ _ hf)
set_option maxRecDepth 100000 in
set_option maxHeartbeats 4000000 in
theorem w_X1_secondsWith_50 {K : Kx} {E : Ex} (h : Ok shX K E RX1 cX1_secondsWith 5 rm_X1_secondsWith) {r : Int32} {u : St} (hr : RetI shX K E cX1_secondsWith 5 r u) (l1 : Int32) (hf : f_X1_secondsWith_50 u l1 = some r) : Vd shX K E 5 50 [some (.inr 7), some (.inl l1), none, none, none] [] u := by
  refine r_aload_n (pc := 50) h dX1_secondsWith_50 rfl ?_
  refine gf_X1_27 (pc := 51) h dX1_secondsWith_51 ?_
  refine r_aload_n (pc := 54) h dX1_secondsWith_54 rfl ?_
  refine gf_X1_53 (pc := 55) (v := (u 7 2)) h rfl dX1_secondsWith_55 ?_
  refine r_aload_n (pc := 58) h dX1_secondsWith_58 rfl ?_
  refine gf_X1_108 (pc := 59) (v := (u 7 14)) h rfl dX1_secondsWith_59 ?_
  refine p_b hf (fun q1 e2 hf => ?_)
  refine r_cSi (pc := 62) (st := []) h [.inr 13, .inl (u 7 2), .inl (u 7 14)] cs_X1_sumOf wm_X1_129 (c_X1_sumOf_13 e2) ⟨rfl, rfl, Nat.le_of_ble_eq_true rfl, Nat.le_of_ble_eq_true rfl⟩ (Nat.le_of_ble_eq_true rfl) dX1_secondsWith_62 ?_
  refine r_aload_n (pc := 65) h dX1_secondsWith_65 rfl ?_
  refine gf_X1_30 (pc := 66) h dX1_secondsWith_66 ?_
  refine r_aload_n (pc := 69) h dX1_secondsWith_69 rfl ?_
  refine gf_X1_57 (pc := 70) (v := (u 7 3)) h rfl dX1_secondsWith_70 ?_
  refine r_aload_n (pc := 73) h dX1_secondsWith_73 rfl ?_
  refine gf_X1_114 (pc := 74) (v := (u 7 15)) h rfl dX1_secondsWith_74 ?_
  refine p_b hf (fun q3 e4 hf => ?_)
  refine r_cSi (pc := 77) (st := [.inl q1]) h [.inr 14, .inl (u 7 3), .inl (u 7 15)] cs_X1_sumOf wm_X1_129 (c_X1_sumOf_14 e4) ⟨rfl, rfl, Nat.le_of_ble_eq_true rfl, Nat.le_of_ble_eq_true rfl⟩ (Nat.le_of_ble_eq_true rfl) dX1_secondsWith_77 ?_
  refine r_iadd (pc := 80) h dX1_secondsWith_80 ?_
  refine r_istore_n (pc := 81) (L' := [some (.inr 7), some (.inl l1), none, some (.inl (q1 + q3)), none]) h dX1_secondsWith_81 (by decide) rfl ?_
  refine r_aload_n (pc := 82) h dX1_secondsWith_82 rfl ?_
  refine gf_X1_27 (pc := 83) h dX1_secondsWith_83 ?_
  refine r_aload_n (pc := 86) h dX1_secondsWith_86 rfl ?_
  refine gf_X1_53 (pc := 87) (v := (u 7 2)) h rfl dX1_secondsWith_87 ?_
  refine r_aload_n (pc := 90) h dX1_secondsWith_90 rfl ?_
  refine gf_X1_108 (pc := 91) (v := (u 7 14)) h rfl dX1_secondsWith_91 ?_
  refine p_b hf (fun q5 e6 hf => ?_)
  refine r_cSi (pc := 94) (st := []) h [.inr 13, .inl (u 7 2), .inl (u 7 14)] cs_X1_mostOf wm_X1_133 (c_X1_mostOf_13 e6) ⟨rfl, rfl, Nat.le_of_ble_eq_true rfl, Nat.le_of_ble_eq_true rfl⟩ (Nat.le_of_ble_eq_true rfl) dX1_secondsWith_94 ?_
  refine r_aload_n (pc := 97) h dX1_secondsWith_97 rfl ?_
  refine gf_X1_30 (pc := 98) h dX1_secondsWith_98 ?_
  refine r_aload_n (pc := 101) h dX1_secondsWith_101 rfl ?_
  refine gf_X1_57 (pc := 102) (v := (u 7 3)) h rfl dX1_secondsWith_102 ?_
  refine r_aload_n (pc := 105) h dX1_secondsWith_105 rfl ?_
  refine gf_X1_114 (pc := 106) (v := (u 7 15)) h rfl dX1_secondsWith_106 ?_
  refine p_b hf (fun q7 e8 hf => ?_)
  refine r_cSi (pc := 109) (st := [.inl q5]) h [.inr 14, .inl (u 7 3), .inl (u 7 15)] cs_X1_mostOf wm_X1_133 (c_X1_mostOf_14 e8) ⟨rfl, rfl, Nat.le_of_ble_eq_true rfl, Nat.le_of_ble_eq_true rfl⟩ (Nat.le_of_ble_eq_true rfl) dX1_secondsWith_109 ?_
  refine r_mmax (pc := 112) (st := []) h wm_X1_136 ⟨Nat.le_of_ble_eq_true rfl, Nat.le_of_ble_eq_true rfl⟩ dX1_secondsWith_112 ?_
  refine r_istore (pc := 115) (L' := [some (.inr 7), some (.inl l1), none, some (.inl (q1 + q3)), some (.inl (jmax q5 q7))]) h dX1_secondsWith_115 (by decide) rfl ?_
  refine r_iload_n (pc := 117) h dX1_secondsWith_117 rfl ?_
  refine r_iload_n (pc := 118) h dX1_secondsWith_118 rfl ?_
  refine r_iadd (pc := 119) h dX1_secondsWith_119 ?_
  refine r_iload_n (pc := 120) h dX1_secondsWith_120 rfl ?_
  refine r_iconst (pc := 121) (v := 1) h dX1_secondsWith_121 (by decide) ?_
  refine r_iadd (pc := 122) h dX1_secondsWith_122 ?_
  refine p_ite hf (fun _ hf => by cases hf) (fun hc9 hf => ?_)
  refine r_idiv (pc := 123) h dX1_secondsWith_123 hc9 ?_
  refine r_iload (pc := 124) h dX1_secondsWith_124 rfl ?_
  refine r_mmax (pc := 126) (st := []) h wm_X1_136 ⟨Nat.le_of_ble_eq_true rfl, Nat.le_of_ble_eq_true rfl⟩ dX1_secondsWith_126 ?_
  have hf := Option.some.inj hf
  subst hf
  exact hr 129 _ dX1_secondsWith_129
set_option maxRecDepth 100000 in
set_option maxHeartbeats 4000000 in
theorem w_X1_secondsWith_29 {K : Kx} {E : Ex} (h : Ok shX K E RX1 cX1_secondsWith 5 rm_X1_secondsWith) {r : Int32} {u : St} (hr : RetI shX K E cX1_secondsWith 5 r u) (l1 s0 : Int32) (hf : f_X1_secondsWith_29 u l1 s0 = some r) : Vd shX K E 5 29 [some (.inr 7), some (.inl l1), none, none, none] [.inl s0] u := by
  refine r_istore_n (pc := 29) (L' := [some (.inr 7), some (.inl l1), some (.inl s0), none, none]) h dX1_secondsWith_29 (by decide) rfl ?_
  refine r_iload_n (pc := 30) h dX1_secondsWith_30 rfl ?_
  refine r_iconst (pc := 31) (v := 0) h dX1_secondsWith_31 (by decide) ?_
  refine r_iconst (pc := 32) (v := 3) h dX1_secondsWith_32 (by decide) ?_
  refine p_b hf (fun q10 e11 hf => ?_)
  refine r_cNi (pc := 33) (st := []) h [.inl l1, .inl 0, .inl 3] cs_X6_isWithin nm_X1_124 (c_X6_isWithin e11) ⟨rfl, rfl, Nat.le_of_ble_eq_true rfl, Nat.le_of_ble_eq_true rfl⟩ (Nat.le_of_ble_eq_true rfl) dX1_secondsWith_33 ?_
  refine p_ite hf (fun hc12 hf => ?_) (fun hc12 hf => ?_)
  · refine r_if_eq (pc := 36) (tgt := 47) h dX1_secondsWith_36 (by decide) (fun _ => ?_) (fun q => absurd hc12 q)
    refine r_ldc (pc := 47) h dX1_secondsWith_47 wc_X1_128 ?_
    have hf := Option.some.inj hf
    subst hf
    exact hr 49 _ dX1_secondsWith_49
  · refine r_if_eq (pc := 36) (tgt := 47) h dX1_secondsWith_36 (by decide) (fun q => absurd q hc12) (fun _ => ?_)
    refine r_iload_n (pc := 39) h dX1_secondsWith_39 rfl ?_
    refine p_ite hf (fun hc13 hf => ?_) (fun hc13 hf => ?_)
    · refine r_if_ne (pc := 40) (tgt := 50) h dX1_secondsWith_40 (by decide) (fun q => absurd hc13 q) (fun _ => ?_)
      refine r_iload_n (pc := 43) h dX1_secondsWith_43 rfl ?_
      refine p_ite hf (fun hc14 hf => ?_) (fun hc14 hf => ?_)
      · refine r_if_eq (pc := 44) (tgt := 50) h dX1_secondsWith_44 (by decide) (fun _ => ?_) (fun q => absurd hc14 q)
        refine r_le [some (.inr 7), some (.inl l1), none, none, none] ⟨rfl, ⟨rfl, trivial⟩⟩ ?_
        exact w_X1_secondsWith_50 h hr _ hf
      · refine r_if_eq (pc := 44) (tgt := 50) h dX1_secondsWith_44 (by decide) (fun q => absurd q hc14) (fun _ => ?_)
        refine r_ldc (pc := 47) h dX1_secondsWith_47 wc_X1_128 ?_
        have hf := Option.some.inj hf
        subst hf
        exact hr 49 _ dX1_secondsWith_49
    · refine r_if_ne (pc := 40) (tgt := 50) h dX1_secondsWith_40 (by decide) (fun _ => ?_) (fun q => absurd q hc13)
      refine r_le [some (.inr 7), some (.inl l1), none, none, none] ⟨rfl, ⟨rfl, trivial⟩⟩ ?_
      exact w_X1_secondsWith_50 h hr _ hf
set_option maxRecDepth 100000 in
set_option maxHeartbeats 4000000 in
theorem w_X1_secondsWith_0 {K : Kx} {E : Ex} (h : Ok shX K E RX1 cX1_secondsWith 5 rm_X1_secondsWith) {r : Int32} {u : St} (hr : RetI shX K E cX1_secondsWith 5 r u) (l1 : Int32) (hf : f_X1_secondsWith u l1 = some r) : Vd shX K E 5 0 [some (.inr 7), some (.inl l1), none, none, none] [] u := by
  refine r_aload_n (pc := 0) h dX1_secondsWith_0 rfl ?_
  refine gf_X1_108 (pc := 1) (v := (u 7 14)) h rfl dX1_secondsWith_1 ?_
  refine r_aload_n (pc := 4) h dX1_secondsWith_4 rfl ?_
  refine gf_X1_63 (pc := 5) (v := (u 7 4)) h rfl dX1_secondsWith_5 ?_
  refine r_iand (pc := 8) h dX1_secondsWith_8 ?_
  refine p_ite hf (fun hc15 hf => ?_) (fun hc15 hf => ?_)
  · refine r_if_ne (pc := 9) (tgt := 24) h dX1_secondsWith_9 (by decide) (fun q => absurd hc15 q) (fun _ => ?_)
    refine r_aload_n (pc := 12) h dX1_secondsWith_12 rfl ?_
    refine gf_X1_114 (pc := 13) (v := (u 7 15)) h rfl dX1_secondsWith_13 ?_
    refine r_aload_n (pc := 16) h dX1_secondsWith_16 rfl ?_
    refine gf_X1_66 (pc := 17) (v := (u 7 5)) h rfl dX1_secondsWith_17 ?_
    refine r_iand (pc := 20) h dX1_secondsWith_20 ?_
    refine p_ite hf (fun hc16 hf => ?_) (fun hc16 hf => ?_)
    · refine r_if_eq (pc := 21) (tgt := 28) h dX1_secondsWith_21 (by decide) (fun _ => ?_) (fun q => absurd hc16 q)
      refine r_iconst (pc := 28) (v := 0) h dX1_secondsWith_28 (by decide) ?_
      exact w_X1_secondsWith_29 h hr _ _ hf
    · refine r_if_eq (pc := 21) (tgt := 28) h dX1_secondsWith_21 (by decide) (fun q => absurd q hc16) (fun _ => ?_)
      refine r_iconst (pc := 24) (v := 1) h dX1_secondsWith_24 (by decide) ?_
      refine r_goto (pc := 25) (tgt := 29) h dX1_secondsWith_25 (by decide) ?_
      exact w_X1_secondsWith_29 h hr _ _ hf
  · refine r_if_ne (pc := 9) (tgt := 24) h dX1_secondsWith_9 (by decide) (fun _ => ?_) (fun q => absurd q hc15)
    refine r_iconst (pc := 24) (v := 1) h dX1_secondsWith_24 (by decide) ?_
    refine r_goto (pc := 25) (tgt := 29) h dX1_secondsWith_25 (by decide) ?_
    exact w_X1_secondsWith_29 h hr _ _ hf
theorem c_X1_secondsWith {u : St} {l1 : Int32} {r : Int32} (hf : f_X1_secondsWith u l1 = some r) : CtI shX yX1_secondsWith cX1_secondsWith 5 (some .int) rm_X1_secondsWith [.inr 7, .inl l1] u r u := ct_I (by decide +kernel) (Nat.le_of_ble_eq_true rfl) (fun K E h hr => w_X1_secondsWith_0 h hr _ hf)
set_option maxRecDepth 100000 in
set_option maxHeartbeats 4000000 in
theorem w_X6_seconds_0 {K : Kx} {E : Ex} (h : Ok shX K E RX6 cX6_seconds 6 rm_X6_seconds) {r : Int32 × St} (hr : RetI shX K E cX6_seconds 6 r.1 r.2) (u : St) (l1 l2 l3 l4 : Int32) (hf : f_X6_seconds u l1 l2 l3 l4 = some r) : Vd shX K E 6 0 [some (.inr 0), some (.inl l1), some (.inl l2), some (.inl l3), some (.inl l4), none] [] u := by
  refine r_aload_n (pc := 0) h dX6_seconds_0 rfl ?_
  refine r_iload_n (pc := 1) h dX6_seconds_1 rfl ?_
  refine r_iload_n (pc := 2) h dX6_seconds_2 rfl ?_
  refine r_iload_n (pc := 3) h dX6_seconds_3 rfl ?_
  refine p_b hf (fun q1 e2 hf => ?_)
  refine r_cVi (pc := 4) (k := 0) (st := []) h [.inl l1, .inl l2, .inl l3] cv_X6_isChange wm_X6_111 (c_X6_isChange e2) ⟨rfl, rfl, Nat.le_of_ble_eq_true rfl, Nat.le_of_ble_eq_true rfl⟩ hshX_0 rfl rfl (Nat.le_of_ble_eq_true rfl) dX6_seconds_4 ?_
  refine p_ite hf (fun hc3 hf => ?_) (fun hc3 hf => ?_)
  · refine r_if_eq (pc := 7) (tgt := 20) h dX6_seconds_7 (by decide) (fun _ => ?_) (fun q => absurd hc3 q)
    refine r_aload_n (pc := 20) h dX6_seconds_20 rfl ?_
    refine r_iconst (pc := 21) (v := 1) h dX6_seconds_21 (by decide) ?_
    refine p_b hf (fun q4 e5 hf => ?_)
    refine r_cVi (pc := 22) (k := 0) (st := []) h [.inl 1] cv_X6_finding wm_X6_72 (c_X6_finding e5) ⟨rfl, rfl, Nat.le_of_ble_eq_true rfl, Nat.le_of_ble_eq_true rfl⟩ hshX_0 rfl rfl (Nat.le_of_ble_eq_true rfl) dX6_seconds_22 ?_
    have hf := Option.some.inj hf
    subst hf
    exact hr 25 _ dX6_seconds_25
  · refine r_if_eq (pc := 7) (tgt := 20) h dX6_seconds_7 (by decide) (fun q => absurd q hc3) (fun _ => ?_)
    refine r_iload (pc := 10) h dX6_seconds_10 rfl ?_
    refine r_iconst (pc := 12) (v := 0) h dX6_seconds_12 (by decide) ?_
    refine r_iconst (pc := 13) (v := 3) h dX6_seconds_13 (by decide) ?_
    refine p_b hf (fun q6 e7 hf => ?_)
    refine r_cSi (pc := 14) (st := []) h [.inl l4, .inl 0, .inl 3] cs_X6_isWithin wm_X6_88 (c_X6_isWithin e7) ⟨rfl, rfl, Nat.le_of_ble_eq_true rfl, Nat.le_of_ble_eq_true rfl⟩ (Nat.le_of_ble_eq_true rfl) dX6_seconds_14 ?_
    refine p_ite hf (fun hc8 hf => ?_) (fun hc8 hf => ?_)
    · refine r_if_ne (pc := 17) (tgt := 26) h dX6_seconds_17 (by decide) (fun q => absurd hc8 q) (fun _ => ?_)
      refine r_aload_n (pc := 20) h dX6_seconds_20 rfl ?_
      refine r_iconst (pc := 21) (v := 1) h dX6_seconds_21 (by decide) ?_
      refine p_b hf (fun q21 e22 hf => ?_)
      refine r_cVi (pc := 22) (k := 0) (st := []) h [.inl 1] cv_X6_finding wm_X6_72 (c_X6_finding e22) ⟨rfl, rfl, Nat.le_of_ble_eq_true rfl, Nat.le_of_ble_eq_true rfl⟩ hshX_0 rfl rfl (Nat.le_of_ble_eq_true rfl) dX6_seconds_22 ?_
      have hf := Option.some.inj hf
      subst hf
      exact hr 25 _ dX6_seconds_25
    · refine r_if_ne (pc := 17) (tgt := 26) h dX6_seconds_17 (by decide) (fun _ => ?_) (fun q => absurd q hc8)
      refine r_aload_n (pc := 26) h dX6_seconds_26 rfl ?_
      refine r_iload_n (pc := 27) h dX6_seconds_27 rfl ?_
      refine r_iload_n (pc := 28) h dX6_seconds_28 rfl ?_
      refine r_iload_n (pc := 29) h dX6_seconds_29 rfl ?_
      refine p_b hf (fun q9 e10 hf => ?_)
      refine r_cVi (pc := 30) (k := 0) (st := []) h [.inl l1, .inl l2, .inl l3] cv_X6_isAllowed wm_X6_114 (c_X6_isAllowed e10) ⟨rfl, rfl, Nat.le_of_ble_eq_true rfl, Nat.le_of_ble_eq_true rfl⟩ hshX_0 rfl rfl (Nat.le_of_ble_eq_true rfl) dX6_seconds_30 ?_
      refine p_ite hf (fun hc11 hf => ?_) (fun hc11 hf => ?_)
      · refine r_if_ne (pc := 33) (tgt := 42) h dX6_seconds_33 (by decide) (fun q => absurd hc11 q) (fun _ => ?_)
        refine r_aload_n (pc := 36) h dX6_seconds_36 rfl ?_
        refine r_iconst (pc := 37) (v := 3) h dX6_seconds_37 (by decide) ?_
        refine p_b hf (fun q19 e20 hf => ?_)
        refine r_cVi (pc := 38) (k := 0) (st := []) h [.inl 3] cv_X6_finding wm_X6_72 (c_X6_finding e20) ⟨rfl, rfl, Nat.le_of_ble_eq_true rfl, Nat.le_of_ble_eq_true rfl⟩ hshX_0 rfl rfl (Nat.le_of_ble_eq_true rfl) dX6_seconds_38 ?_
        have hf := Option.some.inj hf
        subst hf
        exact hr 41 _ dX6_seconds_41
      · refine r_if_ne (pc := 33) (tgt := 42) h dX6_seconds_33 (by decide) (fun _ => ?_) (fun q => absurd q hc11)
        refine r_aload_n (pc := 42) h dX6_seconds_42 rfl ?_
        refine gf_X6_28 (pc := 43) h dX6_seconds_43 ?_
        refine r_iload_n (pc := 46) h dX6_seconds_46 rfl ?_
        refine p_b hf (fun q12 e13 hf => ?_)
        refine r_cVv (pc := 47) (k := 7) (st := []) h [.inl l3] cv_X1_handle wm_X6_117 (c_X1_handle e13) ⟨rfl, rfl, Nat.le_of_ble_eq_true rfl, Nat.le_of_ble_eq_true rfl⟩ hshX_7 rfl rfl (Nat.le_of_ble_eq_true rfl) dX6_seconds_47 ?_
        refine r_aload_n (pc := 50) h dX6_seconds_50 rfl ?_
        refine gf_X6_28 (pc := 51) h dX6_seconds_51 ?_
        refine r_iload (pc := 54) h dX6_seconds_54 rfl ?_
        refine p_b hf (fun q14 e15 hf => ?_)
        refine r_cVi (pc := 56) (k := 7) (st := []) h [.inl l4] cv_X1_secondsWith wm_X6_132 (c_X1_secondsWith e15) ⟨rfl, rfl, Nat.le_of_ble_eq_true rfl, Nat.le_of_ble_eq_true rfl⟩ hshX_7 rfl rfl (Nat.le_of_ble_eq_true rfl) dX6_seconds_56 ?_
        refine r_istore (pc := 59) (L' := [some (.inr 0), some (.inl l1), some (.inl l2), some (.inl l3), some (.inl l4), some (.inl q14)]) h dX6_seconds_59 (by decide) rfl ?_
        refine r_iload (pc := 61) h dX6_seconds_61 rfl ?_
        refine r_ldc (pc := 63) h dX6_seconds_63 wc_X6_135 ?_
        refine p_ite hf (fun hc16 hf => ?_) (fun hc16 hf => ?_)
        · refine r_icmp_ne (pc := 65) (tgt := 76) h dX6_seconds_65 (by decide) (fun q => absurd hc16 q) (fun _ => ?_)
          refine r_aload_n (pc := 68) h dX6_seconds_68 rfl ?_
          refine r_iconst (pc := 69) (v := 2) h dX6_seconds_69 (by decide) ?_
          refine p_b hf (fun q17 e18 hf => ?_)
          refine r_cVi (pc := 70) (k := 0) (st := []) h [.inl 2] cv_X6_finding wm_X6_72 (c_X6_finding e18) ⟨rfl, rfl, Nat.le_of_ble_eq_true rfl, Nat.le_of_ble_eq_true rfl⟩ hshX_0 rfl rfl (Nat.le_of_ble_eq_true rfl) dX6_seconds_70 ?_
          refine r_goto (pc := 73) (tgt := 78) h dX6_seconds_73 (by decide) ?_
          have hf := Option.some.inj hf
          subst hf
          exact hr 78 _ dX6_seconds_78
        · refine r_icmp_ne (pc := 65) (tgt := 76) h dX6_seconds_65 (by decide) (fun _ => ?_) (fun q => absurd q hc16)
          refine r_iload (pc := 76) h dX6_seconds_76 rfl ?_
          have hf := Option.some.inj hf
          subst hf
          exact hr 78 _ dX6_seconds_78
theorem c_X6_seconds {u : St} {l1 l2 l3 l4 : Int32} {r : Int32 × St} (hf : f_X6_seconds u l1 l2 l3 l4 = some r) : CtI shX yX6_seconds cX6_seconds 6 (some .int) rm_X6_seconds [.inr 0, .inl l1, .inl l2, .inl l3, .inl l4] u r.1 r.2 := ct_I (by decide +kernel) (Nat.le_of_ble_eq_true rfl) (fun K E h hr => w_X6_seconds_0 h hr _ _ _ _ _ hf)
set_option maxRecDepth 100000 in
set_option maxHeartbeats 4000000 in
theorem w_X1_keepIfBetter_0 {K : Kx} {E : Ex} (h : Ok shX K E RX1 cX1_keepIfBetter 3 rm_X1_keepIfBetter) {r : St} (hr : RetV shX K E cX1_keepIfBetter 3 r) (u : St) (l1 l2 : Int32) (hf : f_X1_keepIfBetter u l1 l2 = some r) : Vd shX K E 3 0 [some (.inr 7), some (.inl l1), some (.inl l2)] [] u := by
  refine r_iload_n (pc := 0) h dX1_keepIfBetter_0 rfl ?_
  refine r_aload_n (pc := 1) h dX1_keepIfBetter_1 rfl ?_
  refine gf_X1_146 (pc := 2) (v := (u 7 17)) h rfl dX1_keepIfBetter_2 ?_
  refine p_ite hf (fun hc1 hf => ?_) (fun hc1 hf => ?_)
  · refine r_icmp_lt (pc := 5) (tgt := 30) h dX1_keepIfBetter_5 (by decide) (fun _ => ?_) (fun q => absurd hc1 q)
    refine r_aload_n (pc := 30) h dX1_keepIfBetter_30 rfl ?_
    refine r_iload_n (pc := 31) h dX1_keepIfBetter_31 rfl ?_
    refine pf_X1_143 (pc := 32) h dX1_keepIfBetter_32 ?_
    refine r_aload_n (pc := 35) h dX1_keepIfBetter_35 rfl ?_
    refine r_iload_n (pc := 36) h dX1_keepIfBetter_36 rfl ?_
    refine pf_X1_146 (pc := 37) h dX1_keepIfBetter_37 ?_
    have hf := Option.some.inj hf
    subst hf
    exact hr 40 _ dX1_keepIfBetter_40
  · refine r_icmp_lt (pc := 5) (tgt := 30) h dX1_keepIfBetter_5 (by decide) (fun q => absurd q hc1) (fun _ => ?_)
    refine r_iload_n (pc := 8) h dX1_keepIfBetter_8 rfl ?_
    refine r_aload_n (pc := 9) h dX1_keepIfBetter_9 rfl ?_
    refine gf_X1_146 (pc := 10) (v := (u 7 17)) h rfl dX1_keepIfBetter_10 ?_
    refine p_ite hf (fun hc2 hf => ?_) (fun hc2 hf => ?_)
    · refine r_icmp_ne (pc := 13) (tgt := 40) h dX1_keepIfBetter_13 (by decide) (fun q => absurd hc2 q) (fun _ => ?_)
      refine r_iload_n (pc := 16) h dX1_keepIfBetter_16 rfl ?_
      refine p_b hf (fun q3 e4 hf => ?_)
      refine r_cSi (pc := 17) (st := []) h [.inl l1] cs_J6_bitCount_0f7a4 wm_X1_162 (c_J6_bitCount e4) ⟨rfl, rfl, Nat.le_of_ble_eq_true rfl, Nat.le_of_ble_eq_true rfl⟩ (Nat.le_of_ble_eq_true rfl) dX1_keepIfBetter_17 ?_
      refine r_aload_n (pc := 20) h dX1_keepIfBetter_20 rfl ?_
      refine gf_X1_143 (pc := 21) (v := (u 7 16)) h rfl dX1_keepIfBetter_21 ?_
      refine p_b hf (fun q5 e6 hf => ?_)
      refine r_cSi (pc := 24) (st := [.inl q3]) h [.inl (u 7 16)] cs_J6_bitCount_0f7a4 wm_X1_162 (c_J6_bitCount e6) ⟨rfl, rfl, Nat.le_of_ble_eq_true rfl, Nat.le_of_ble_eq_true rfl⟩ (Nat.le_of_ble_eq_true rfl) dX1_keepIfBetter_24 ?_
      refine p_ite hf (fun hc7 hf => ?_) (fun hc7 hf => ?_)
      · refine r_icmp_ge (pc := 27) (tgt := 40) h dX1_keepIfBetter_27 (by decide) (fun _ => ?_) (fun q => absurd hc7 q)
        have hf := Option.some.inj hf
        subst hf
        exact hr 40 _ dX1_keepIfBetter_40
      · refine r_icmp_ge (pc := 27) (tgt := 40) h dX1_keepIfBetter_27 (by decide) (fun q => absurd q hc7) (fun _ => ?_)
        refine r_aload_n (pc := 30) h dX1_keepIfBetter_30 rfl ?_
        refine r_iload_n (pc := 31) h dX1_keepIfBetter_31 rfl ?_
        refine pf_X1_143 (pc := 32) h dX1_keepIfBetter_32 ?_
        refine r_aload_n (pc := 35) h dX1_keepIfBetter_35 rfl ?_
        refine r_iload_n (pc := 36) h dX1_keepIfBetter_36 rfl ?_
        refine pf_X1_146 (pc := 37) h dX1_keepIfBetter_37 ?_
        have hf := Option.some.inj hf
        subst hf
        exact hr 40 _ dX1_keepIfBetter_40
    · refine r_icmp_ne (pc := 13) (tgt := 40) h dX1_keepIfBetter_13 (by decide) (fun _ => ?_) (fun q => absurd q hc2)
      have hf := Option.some.inj hf
      subst hf
      exact hr 40 _ dX1_keepIfBetter_40
theorem c_X1_keepIfBetter {u : St} {l1 l2 : Int32} {r : St} (hf : f_X1_keepIfBetter u l1 l2 = some r) : CtV shX yX1_keepIfBetter cX1_keepIfBetter 3 none rm_X1_keepIfBetter [.inr 7, .inl l1, .inl l2] u r := ct_V (by decide +kernel) (Nat.le_of_ble_eq_true rfl) (fun K E h hr => w_X1_keepIfBetter_0 h hr _ _ _ hf)
set_option maxRecDepth 100000 in
set_option maxHeartbeats 4000000 in
theorem w_X1_findBest_20 {K : Kx} {E : Ex} (h : Ok shX K E RX1 cX1_findBest 6 rm_X1_findBest) {r : St} (hr : RetV shX K E cX1_findBest 6 r) : ∀ (n : Nat) (u : St) (l3 l4 l5 : Int32), f_X1_findBest_20 n u l3 l4 l5 = some r → Vd shX K E 6 20 [some (.inr 7), none, none, some (.inl l3), some (.inl l4), some (.inl l5)] [] u := by
  intro n
  induction n with
  | zero => intro u l3 l4 l5 hf; cases hf
  | succ n ih =>
    intro u l3 l4 l5 hf
    refine r_iload (pc := 20) h dX1_findBest_20 rfl ?_
    refine r_iconst (pc := 22) (v := 1) h dX1_findBest_22 (by decide) ?_
    refine r_aload_n (pc := 23) h dX1_findBest_23 rfl ?_
    refine gf_X1_57 (pc := 24) (v := (u 7 3)) h rfl dX1_findBest_24 ?_
    refine r_ishl (pc := 27) h dX1_findBest_27 ?_
    refine p_ite hf (fun hc1 hf => ?_) (fun hc1 hf => ?_)
    · refine r_icmp_ge (pc := 28) (tgt := 65) h dX1_findBest_28 (by decide) (fun _ => ?_) (fun q => absurd hc1 q)
      have hf := Option.some.inj hf
      subst hf
      exact hr 65 _ dX1_findBest_65
    · refine r_icmp_ge (pc := 28) (tgt := 65) h dX1_findBest_28 (by decide) (fun q => absurd q hc1) (fun _ => ?_)
      refine r_aload_n (pc := 31) h dX1_findBest_31 rfl ?_
      refine r_iload (pc := 32) h dX1_findBest_32 rfl ?_
      refine r_iload (pc := 34) h dX1_findBest_34 rfl ?_
      refine p_b hf (fun q2 e3 hf => ?_)
      refine r_cVi (pc := 36) (k := 7) (st := []) h [.inl l5, .inl l4] cv_X1_mayLieBeneath wm_X1_149 (c_X1_mayLieBeneath e3) ⟨rfl, rfl, Nat.le_of_ble_eq_true rfl, Nat.le_of_ble_eq_true rfl⟩ hshX_7 rfl rfl (Nat.le_of_ble_eq_true rfl) dX1_findBest_36 ?_
      refine p_ite hf (fun hc4 hf => ?_) (fun hc4 hf => ?_)
      · refine r_if_eq (pc := 39) (tgt := 59) h dX1_findBest_39 (by decide) (fun _ => ?_) (fun q => absurd hc4 q)
        refine r_iinc (pc := 59) (v := (l5 + 1)) (L' := [some (.inr 7), none, none, some (.inl l3), some (.inl l4), some (.inl (l5 + 1))]) h dX1_findBest_59 rfl rfl (by decide) rfl ?_
        refine r_goto (pc := 62) (tgt := 20) h dX1_findBest_62 (by decide) ?_
        exact ih _ _ _ _ hf
      · refine r_if_eq (pc := 39) (tgt := 59) h dX1_findBest_39 (by decide) (fun q => absurd q hc4) (fun _ => ?_)
        refine r_aload_n (pc := 42) h dX1_findBest_42 rfl ?_
        refine r_iload (pc := 43) h dX1_findBest_43 rfl ?_
        refine p_b hf (fun q5 e6 hf => ?_)
        refine r_cVv (pc := 45) (k := 7) (st := []) h [.inl l5] cv_X1_handle wm_X1_152 (c_X1_handle e6) ⟨rfl, rfl, Nat.le_of_ble_eq_true rfl, Nat.le_of_ble_eq_true rfl⟩ hshX_7 rfl rfl (Nat.le_of_ble_eq_true rfl) dX1_findBest_45 ?_
        refine r_aload_n (pc := 48) h dX1_findBest_48 rfl ?_
        refine r_iload (pc := 49) h dX1_findBest_49 rfl ?_
        refine r_aload_n (pc := 51) h dX1_findBest_51 rfl ?_
        refine r_iload_n (pc := 52) h dX1_findBest_52 rfl ?_
        refine p_b hf (fun q7 e8 hf => ?_)
        refine r_cVi (pc := 53) (k := 7) (st := [.inl l5, .inr 7]) h [.inl l3] cv_X1_secondsWith wm_X1_156 (c_X1_secondsWith e8) ⟨rfl, rfl, Nat.le_of_ble_eq_true rfl, Nat.le_of_ble_eq_true rfl⟩ hshX_7 rfl rfl (Nat.le_of_ble_eq_true rfl) dX1_findBest_53 ?_
        refine p_b hf (fun q9 e10 hf => ?_)
        refine r_cVv (pc := 56) (k := 7) (st := []) h [.inl l5, .inl q7] cv_X1_keepIfBetter wm_X1_159 (c_X1_keepIfBetter e10) ⟨rfl, rfl, Nat.le_of_ble_eq_true rfl, Nat.le_of_ble_eq_true rfl⟩ hshX_7 rfl rfl (Nat.le_of_ble_eq_true rfl) dX1_findBest_56 ?_
        refine r_iinc (pc := 59) (v := (l5 + 1)) (L' := [some (.inr 7), none, none, some (.inl l3), some (.inl l4), some (.inl (l5 + 1))]) h dX1_findBest_59 rfl rfl (by decide) rfl ?_
        refine r_goto (pc := 62) (tgt := 20) h dX1_findBest_62 (by decide) ?_
        exact ih _ _ _ _ hf
set_option maxRecDepth 100000 in
set_option maxHeartbeats 4000000 in
theorem w_X1_findBest_0 {K : Kx} {E : Ex} (h : Ok shX K E RX1 cX1_findBest 6 rm_X1_findBest) {r : St} (hr : RetV shX K E cX1_findBest 6 r) (u : St) (l1 l2 l3 l4 : Int32) (hf : f_X1_findBest u l1 l2 l3 l4 = some r) : Vd shX K E 6 0 [some (.inr 7), some (.inl l1), some (.inl l2), some (.inl l3), some (.inl l4), none] [] u := by
  refine r_aload_n (pc := 0) h dX1_findBest_0 rfl ?_
  refine r_iload_n (pc := 1) h dX1_findBest_1 rfl ?_
  refine r_iload_n (pc := 2) h dX1_findBest_2 rfl ?_
  refine p_b hf (fun q11 e12 hf => ?_)
  refine r_cVv (pc := 3) (k := 7) (st := []) h [.inl l1, .inl l2] cv_X1_prepare wm_X1_139 (c_X1_prepare e12) ⟨rfl, rfl, Nat.le_of_ble_eq_true rfl, Nat.le_of_ble_eq_true rfl⟩ hshX_7 rfl rfl (Nat.le_of_ble_eq_true rfl) dX1_findBest_3 ?_
  refine r_aload_n (pc := 6) h dX1_findBest_6 rfl ?_
  refine r_iconst (pc := 7) (v := 0) h dX1_findBest_7 (by decide) ?_
  refine pf_X1_143 (pc := 8) h dX1_findBest_8 ?_
  refine r_aload_n (pc := 11) h dX1_findBest_11 rfl ?_
  refine r_ldc (pc := 12) h dX1_findBest_12 wc_X1_128 ?_
  refine pf_X1_146 (pc := 14) h dX1_findBest_14 ?_
  refine r_iconst (pc := 17) (v := 0) h dX1_findBest_17 (by decide) ?_
  refine r_istore (pc := 18) (L' := [some (.inr 7), some (.inl l1), some (.inl l2), some (.inl l3), some (.inl l4), some (.inl 0)]) h dX1_findBest_18 (by decide) rfl ?_
  refine r_le [some (.inr 7), none, none, some (.inl l3), some (.inl l4), some (.inl 0)] ⟨rfl, ⟨rfl, ⟨rfl, ⟨rfl, trivial⟩⟩⟩⟩ ?_
  exact w_X1_findBest_20 h hr FU _ _ _ _ hf
theorem c_X1_findBest {u : St} {l1 l2 l3 l4 : Int32} {r : St} (hf : f_X1_findBest u l1 l2 l3 l4 = some r) : CtV shX yX1_findBest cX1_findBest 6 none rm_X1_findBest [.inr 7, .inl l1, .inl l2, .inl l3, .inl l4] u r := ct_V (by decide +kernel) (Nat.le_of_ble_eq_true rfl) (fun K E h hr => w_X1_findBest_0 h hr _ _ _ _ _ hf)
set_option maxRecDepth 100000 in
set_option maxHeartbeats 4000000 in
theorem w_X6_best_0 {K : Kx} {E : Ex} (h : Ok shX K E RX6 cX6_best 5 rm_X6_best) {r : Int32 × St} (hr : RetI shX K E cX6_best 5 r.1 r.2) (u : St) (l1 l2 l3 l4 : Int32) (hf : f_X6_best u l1 l2 l3 l4 = some r) : Vd shX K E 5 0 [some (.inr 0), some (.inl l1), some (.inl l2), some (.inl l3), some (.inl l4)] [] u := by
  refine r_aload_n (pc := 0) h dX6_best_0 rfl ?_
  refine r_iload_n (pc := 1) h dX6_best_1 rfl ?_
  refine r_iload_n (pc := 2) h dX6_best_2 rfl ?_
  refine r_iconst (pc := 3) (v := 0) h dX6_best_3 (by decide) ?_
  refine p_b hf (fun q1 e2 hf => ?_)
  refine r_cVi (pc := 4) (k := 0) (st := []) h [.inl l1, .inl l2, .inl 0] cv_X6_isChange wm_X6_111 (c_X6_isChange e2) ⟨rfl, rfl, Nat.le_of_ble_eq_true rfl, Nat.le_of_ble_eq_true rfl⟩ hshX_0 rfl rfl (Nat.le_of_ble_eq_true rfl) dX6_best_4 ?_
  refine p_ite hf (fun hc3 hf => ?_) (fun hc3 hf => ?_)
  · refine r_if_eq (pc := 7) (tgt := 29) h dX6_best_7 (by decide) (fun _ => ?_) (fun q => absurd hc3 q)
    refine r_aload_n (pc := 29) h dX6_best_29 rfl ?_
    refine r_iconst (pc := 30) (v := 1) h dX6_best_30 (by decide) ?_
    refine p_b hf (fun q4 e5 hf => ?_)
    refine r_cVi (pc := 31) (k := 0) (st := []) h [.inl 1] cv_X6_finding wm_X6_72 (c_X6_finding e5) ⟨rfl, rfl, Nat.le_of_ble_eq_true rfl, Nat.le_of_ble_eq_true rfl⟩ hshX_0 rfl rfl (Nat.le_of_ble_eq_true rfl) dX6_best_31 ?_
    have hf := Option.some.inj hf
    subst hf
    exact hr 34 _ dX6_best_34
  · refine r_if_eq (pc := 7) (tgt := 29) h dX6_best_7 (by decide) (fun q => absurd q hc3) (fun _ => ?_)
    refine r_iload_n (pc := 10) h dX6_best_10 rfl ?_
    refine r_iconst (pc := 11) (v := 0) h dX6_best_11 (by decide) ?_
    refine r_iconst (pc := 12) (v := 3) h dX6_best_12 (by decide) ?_
    refine p_b hf (fun q6 e7 hf => ?_)
    refine r_cSi (pc := 13) (st := []) h [.inl l3, .inl 0, .inl 3] cs_X6_isWithin wm_X6_88 (c_X6_isWithin e7) ⟨rfl, rfl, Nat.le_of_ble_eq_true rfl, Nat.le_of_ble_eq_true rfl⟩ (Nat.le_of_ble_eq_true rfl) dX6_best_13 ?_
    refine p_ite hf (fun hc8 hf => ?_) (fun hc8 hf => ?_)
    · refine r_if_eq (pc := 16) (tgt := 29) h dX6_best_16 (by decide) (fun _ => ?_) (fun q => absurd hc8 q)
      refine r_aload_n (pc := 29) h dX6_best_29 rfl ?_
      refine r_iconst (pc := 30) (v := 1) h dX6_best_30 (by decide) ?_
      refine p_b hf (fun q9 e10 hf => ?_)
      refine r_cVi (pc := 31) (k := 0) (st := []) h [.inl 1] cv_X6_finding wm_X6_72 (c_X6_finding e10) ⟨rfl, rfl, Nat.le_of_ble_eq_true rfl, Nat.le_of_ble_eq_true rfl⟩ hshX_0 rfl rfl (Nat.le_of_ble_eq_true rfl) dX6_best_31 ?_
      have hf := Option.some.inj hf
      subst hf
      exact hr 34 _ dX6_best_34
    · refine r_if_eq (pc := 16) (tgt := 29) h dX6_best_16 (by decide) (fun q => absurd q hc8) (fun _ => ?_)
      refine r_iload (pc := 19) h dX6_best_19 rfl ?_
      refine r_iconst (pc := 21) (v := 0) h dX6_best_21 (by decide) ?_
      refine r_iconst (pc := 22) (v := 1) h dX6_best_22 (by decide) ?_
      refine p_b hf (fun q11 e12 hf => ?_)
      refine r_cSi (pc := 23) (st := []) h [.inl l4, .inl 0, .inl 1] cs_X6_isWithin wm_X6_88 (c_X6_isWithin e12) ⟨rfl, rfl, Nat.le_of_ble_eq_true rfl, Nat.le_of_ble_eq_true rfl⟩ (Nat.le_of_ble_eq_true rfl) dX6_best_23 ?_
      refine p_ite hf (fun hc13 hf => ?_) (fun hc13 hf => ?_)
      · refine r_if_ne (pc := 26) (tgt := 35) h dX6_best_26 (by decide) (fun q => absurd hc13 q) (fun _ => ?_)
        refine r_aload_n (pc := 29) h dX6_best_29 rfl ?_
        refine r_iconst (pc := 30) (v := 1) h dX6_best_30 (by decide) ?_
        refine p_b hf (fun q20 e21 hf => ?_)
        refine r_cVi (pc := 31) (k := 0) (st := []) h [.inl 1] cv_X6_finding wm_X6_72 (c_X6_finding e21) ⟨rfl, rfl, Nat.le_of_ble_eq_true rfl, Nat.le_of_ble_eq_true rfl⟩ hshX_0 rfl rfl (Nat.le_of_ble_eq_true rfl) dX6_best_31 ?_
        have hf := Option.some.inj hf
        subst hf
        exact hr 34 _ dX6_best_34
      · refine r_if_ne (pc := 26) (tgt := 35) h dX6_best_26 (by decide) (fun _ => ?_) (fun q => absurd q hc13)
        refine r_aload_n (pc := 35) h dX6_best_35 rfl ?_
        refine gf_X6_28 (pc := 36) h dX6_best_36 ?_
        refine r_iload_n (pc := 39) h dX6_best_39 rfl ?_
        refine r_iload_n (pc := 40) h dX6_best_40 rfl ?_
        refine r_iload_n (pc := 41) h dX6_best_41 rfl ?_
        refine r_aload_n (pc := 42) h dX6_best_42 rfl ?_
        refine gf_X6_64 (pc := 43) (v := (u 0 9)) h rfl dX6_best_43 ?_
        refine p_b hf (fun q14 e15 hf => ?_)
        refine r_cVv (pc := 46) (k := 7) (st := []) h [.inl l1, .inl l2, .inl l3, .inl (u 0 9)] cv_X1_findBest wm_X6_136 (c_X1_findBest e15) ⟨rfl, rfl, Nat.le_of_ble_eq_true rfl, Nat.le_of_ble_eq_true rfl⟩ hshX_7 rfl rfl (Nat.le_of_ble_eq_true rfl) dX6_best_46 ?_
        refine r_aload_n (pc := 49) h dX6_best_49 rfl ?_
        refine gf_X6_28 (pc := 50) h dX6_best_50 ?_
        refine gf_X6_140 (pc := 53) (v := (q14 7 17)) h rfl dX6_best_53 ?_
        refine r_ldc (pc := 56) h dX6_best_56 wc_X6_135 ?_
        refine p_ite hf (fun hc16 hf => ?_) (fun hc16 hf => ?_)
        · refine r_icmp_ne (pc := 58) (tgt := 67) h dX6_best_58 (by decide) (fun q => absurd hc16 q) (fun _ => ?_)
          refine r_aload_n (pc := 61) h dX6_best_61 rfl ?_
          refine r_iconst (pc := 62) (v := 2) h dX6_best_62 (by decide) ?_
          refine p_b hf (fun q18 e19 hf => ?_)
          refine r_cVi (pc := 63) (k := 0) (st := []) h [.inl 2] cv_X6_finding wm_X6_72 (c_X6_finding e19) ⟨rfl, rfl, Nat.le_of_ble_eq_true rfl, Nat.le_of_ble_eq_true rfl⟩ hshX_0 rfl rfl (Nat.le_of_ble_eq_true rfl) dX6_best_63 ?_
          have hf := Option.some.inj hf
          subst hf
          exact hr 66 _ dX6_best_66
        · refine r_icmp_ne (pc := 58) (tgt := 67) h dX6_best_58 (by decide) (fun _ => ?_) (fun q => absurd q hc16)
          refine r_iload (pc := 67) h dX6_best_67 rfl ?_
          refine p_ite hf (fun hc17 hf => ?_) (fun hc17 hf => ?_)
          · refine r_if_ne (pc := 69) (tgt := 82) h dX6_best_69 (by decide) (fun q => absurd hc17 q) (fun _ => ?_)
            refine r_aload_n (pc := 72) h dX6_best_72 rfl ?_
            refine gf_X6_28 (pc := 73) h dX6_best_73 ?_
            refine gf_X6_143 (pc := 76) (v := (q14 7 16)) h rfl dX6_best_76 ?_
            refine r_goto (pc := 79) (tgt := 89) h dX6_best_79 (by decide) ?_
            have hf := Option.some.inj hf
            subst hf
            exact hr 89 _ dX6_best_89
          · refine r_if_ne (pc := 69) (tgt := 82) h dX6_best_69 (by decide) (fun _ => ?_) (fun q => absurd q hc17)
            refine r_aload_n (pc := 82) h dX6_best_82 rfl ?_
            refine gf_X6_28 (pc := 83) h dX6_best_83 ?_
            refine gf_X6_140 (pc := 86) (v := (q14 7 17)) h rfl dX6_best_86 ?_
            have hf := Option.some.inj hf
            subst hf
            exact hr 89 _ dX6_best_89
theorem c_X6_best {u : St} {l1 l2 l3 l4 : Int32} {r : Int32 × St} (hf : f_X6_best u l1 l2 l3 l4 = some r) : CtI shX yX6_best cX6_best 5 (some .int) rm_X6_best [.inr 0, .inl l1, .inl l2, .inl l3, .inl l4] u r.1 r.2 := ct_I (by decide +kernel) (Nat.le_of_ble_eq_true rfl) (fun K E h hr => w_X6_best_0 h hr _ _ _ _ _ hf)
set_option maxRecDepth 100000 in
set_option maxHeartbeats 4000000 in
theorem w_X6_beforeIn_0 {K : Kx} {E : Ex} (h : Ok shX K E RX6 cX6_beforeIn 1 rm_X6_beforeIn) {r : Int32} {u : St} (hr : RetI shX K E cX6_beforeIn 1 r u) (l0 : Int32) (hf : f_X6_beforeIn u l0 = some r) : Vd shX K E 1 0 [some (.inl l0)] [] u := by
  refine r_iload_n (pc := 0) h dX6_beforeIn_0 rfl ?_
  refine r_sipush (pc := 1) (v := 1000) h dX6_beforeIn_1 (by decide) ?_
  refine r_idiv (pc := 4) h dX6_beforeIn_4 (by decide) ?_
  have hf := Option.some.inj hf
  subst hf
  exact hr 5 _ dX6_beforeIn_5
theorem c_X6_beforeIn {u : St} {l0 : Int32} {r : Int32} (hf : f_X6_beforeIn u l0 = some r) : CtI shX yX6_beforeIn cX6_beforeIn 1 (some .int) rm_X6_beforeIn [.inl l0] u r u := ct_I (by decide +kernel) (Nat.le_of_ble_eq_true rfl) (fun K E h hr => w_X6_beforeIn_0 h hr _ hf)
set_option maxRecDepth 100000 in
set_option maxHeartbeats 4000000 in
theorem w_X6_afterIn_0 {K : Kx} {E : Ex} (h : Ok shX K E RX6 cX6_afterIn 1 rm_X6_afterIn) {r : Int32} {u : St} (hr : RetI shX K E cX6_afterIn 1 r u) (l0 : Int32) (hf : f_X6_afterIn u l0 = some r) : Vd shX K E 1 0 [some (.inl l0)] [] u := by
  refine r_iload_n (pc := 0) h dX6_afterIn_0 rfl ?_
  refine r_bipush (pc := 1) (v := 10) h dX6_afterIn_1 (by decide) ?_
  refine r_idiv (pc := 3) h dX6_afterIn_3 (by decide) ?_
  refine r_bipush (pc := 4) (v := 100) h dX6_afterIn_4 (by decide) ?_
  refine r_irem (pc := 6) h dX6_afterIn_6 (by decide) ?_
  have hf := Option.some.inj hf
  subst hf
  exact hr 7 _ dX6_afterIn_7
theorem c_X6_afterIn {u : St} {l0 : Int32} {r : Int32} (hf : f_X6_afterIn u l0 = some r) : CtI shX yX6_afterIn cX6_afterIn 1 (some .int) rm_X6_afterIn [.inl l0] u r u := ct_I (by decide +kernel) (Nat.le_of_ble_eq_true rfl) (fun K E h hr => w_X6_afterIn_0 h hr _ hf)
set_option maxRecDepth 100000 in
set_option maxHeartbeats 4000000 in
theorem w_X6_doorIn_0 {K : Kx} {E : Ex} (h : Ok shX K E RX6 cX6_doorIn 1 rm_X6_doorIn) {r : Int32} {u : St} (hr : RetI shX K E cX6_doorIn 1 r u) (l0 : Int32) (hf : f_X6_doorIn u l0 = some r) : Vd shX K E 1 0 [some (.inl l0)] [] u := by
  refine r_iload_n (pc := 0) h dX6_doorIn_0 rfl ?_
  refine r_bipush (pc := 1) (v := 10) h dX6_doorIn_1 (by decide) ?_
  refine r_irem (pc := 3) h dX6_doorIn_3 (by decide) ?_
  have hf := Option.some.inj hf
  subst hf
  exact hr 4 _ dX6_doorIn_4
theorem c_X6_doorIn {u : St} {l0 : Int32} {r : Int32} (hf : f_X6_doorIn u l0 = some r) : CtI shX yX6_doorIn cX6_doorIn 1 (some .int) rm_X6_doorIn [.inl l0] u r u := ct_I (by decide +kernel) (Nat.le_of_ble_eq_true rfl) (fun K E h hr => w_X6_doorIn_0 h hr _ hf)
set_option maxRecDepth 100000 in
set_option maxHeartbeats 4000000 in
theorem w_X6_isShiftTold_0 {K : Kx} {E : Ex} (h : Ok shX K E RX6 cX6_isShiftTold 1 rm_X6_isShiftTold) {r : Int32} {u : St} (hr : RetZ shX K E cX6_isShiftTold 1 r u) (l0 : Int32) (hf : f_X6_isShiftTold u l0 = some r) : Vd shX K E 1 0 [some (.inl l0)] [] u := by
  refine r_iload_n (pc := 0) h dX6_isShiftTold_0 rfl ?_
  refine p_ite hf (fun hc1 hf => ?_) (fun hc1 hf => ?_)
  · refine r_if_lt (pc := 1) (tgt := 46) h dX6_isShiftTold_1 (by decide) (fun _ => ?_) (fun q => absurd hc1 q)
    refine r_iconst (pc := 46) (v := 0) h dX6_isShiftTold_46 (by decide) ?_
    have hf := Option.some.inj hf
    subst hf
    exact hr 47 _ dX6_isShiftTold_47 z_0
  · refine r_if_lt (pc := 1) (tgt := 46) h dX6_isShiftTold_1 (by decide) (fun q => absurd q hc1) (fun _ => ?_)
    refine r_iload_n (pc := 4) h dX6_isShiftTold_4 rfl ?_
    refine p_b hf (fun q2 e3 hf => ?_)
    refine r_cSi (pc := 5) (st := []) h [.inl l0] cs_X6_beforeIn wm_X6_236 (c_X6_beforeIn e3) ⟨rfl, rfl, Nat.le_of_ble_eq_true rfl, Nat.le_of_ble_eq_true rfl⟩ (Nat.le_of_ble_eq_true rfl) dX6_isShiftTold_5 ?_
    refine r_iconst (pc := 8) (v := 0) h dX6_isShiftTold_8 (by decide) ?_
    refine r_bipush (pc := 9) (v := 11) h dX6_isShiftTold_9 (by decide) ?_
    refine p_b hf (fun q4 e5 hf => ?_)
    refine r_cSi (pc := 11) (st := []) h [.inl q2, .inl 0, .inl 11] cs_X6_isWithin wm_X6_88 (c_X6_isWithin e5) ⟨rfl, rfl, Nat.le_of_ble_eq_true rfl, Nat.le_of_ble_eq_true rfl⟩ (Nat.le_of_ble_eq_true rfl) dX6_isShiftTold_11 ?_
    refine p_ite hf (fun hc6 hf => ?_) (fun hc6 hf => ?_)
    · refine r_if_eq (pc := 14) (tgt := 46) h dX6_isShiftTold_14 (by decide) (fun _ => ?_) (fun q => absurd hc6 q)
      refine r_iconst (pc := 46) (v := 0) h dX6_isShiftTold_46 (by decide) ?_
      have hf := Option.some.inj hf
      subst hf
      exact hr 47 _ dX6_isShiftTold_47 z_0
    · refine r_if_eq (pc := 14) (tgt := 46) h dX6_isShiftTold_14 (by decide) (fun q => absurd q hc6) (fun _ => ?_)
      refine r_iload_n (pc := 17) h dX6_isShiftTold_17 rfl ?_
      refine p_b hf (fun q7 e8 hf => ?_)
      refine r_cSi (pc := 18) (st := []) h [.inl l0] cs_X6_afterIn wm_X6_239 (c_X6_afterIn e8) ⟨rfl, rfl, Nat.le_of_ble_eq_true rfl, Nat.le_of_ble_eq_true rfl⟩ (Nat.le_of_ble_eq_true rfl) dX6_isShiftTold_18 ?_
      refine r_iconst (pc := 21) (v := 0) h dX6_isShiftTold_21 (by decide) ?_
      refine r_bipush (pc := 22) (v := 11) h dX6_isShiftTold_22 (by decide) ?_
      refine p_b hf (fun q9 e10 hf => ?_)
      refine r_cSi (pc := 24) (st := []) h [.inl q7, .inl 0, .inl 11] cs_X6_isWithin wm_X6_88 (c_X6_isWithin e10) ⟨rfl, rfl, Nat.le_of_ble_eq_true rfl, Nat.le_of_ble_eq_true rfl⟩ (Nat.le_of_ble_eq_true rfl) dX6_isShiftTold_24 ?_
      refine p_ite hf (fun hc11 hf => ?_) (fun hc11 hf => ?_)
      · refine r_if_eq (pc := 27) (tgt := 46) h dX6_isShiftTold_27 (by decide) (fun _ => ?_) (fun q => absurd hc11 q)
        refine r_iconst (pc := 46) (v := 0) h dX6_isShiftTold_46 (by decide) ?_
        have hf := Option.some.inj hf
        subst hf
        exact hr 47 _ dX6_isShiftTold_47 z_0
      · refine r_if_eq (pc := 27) (tgt := 46) h dX6_isShiftTold_27 (by decide) (fun q => absurd q hc11) (fun _ => ?_)
        refine r_iload_n (pc := 30) h dX6_isShiftTold_30 rfl ?_
        refine p_b hf (fun q12 e13 hf => ?_)
        refine r_cSi (pc := 31) (st := []) h [.inl l0] cs_X6_doorIn wm_X6_242 (c_X6_doorIn e13) ⟨rfl, rfl, Nat.le_of_ble_eq_true rfl, Nat.le_of_ble_eq_true rfl⟩ (Nat.le_of_ble_eq_true rfl) dX6_isShiftTold_31 ?_
        refine r_iconst (pc := 34) (v := 0) h dX6_isShiftTold_34 (by decide) ?_
        refine r_iconst (pc := 35) (v := 5) h dX6_isShiftTold_35 (by decide) ?_
        refine p_b hf (fun q14 e15 hf => ?_)
        refine r_cSi (pc := 36) (st := []) h [.inl q12, .inl 0, .inl 5] cs_X6_isWithin wm_X6_88 (c_X6_isWithin e15) ⟨rfl, rfl, Nat.le_of_ble_eq_true rfl, Nat.le_of_ble_eq_true rfl⟩ (Nat.le_of_ble_eq_true rfl) dX6_isShiftTold_36 ?_
        refine p_ite hf (fun hc16 hf => ?_) (fun hc16 hf => ?_)
        · refine r_if_eq (pc := 39) (tgt := 46) h dX6_isShiftTold_39 (by decide) (fun _ => ?_) (fun q => absurd hc16 q)
          refine r_iconst (pc := 46) (v := 0) h dX6_isShiftTold_46 (by decide) ?_
          have hf := Option.some.inj hf
          subst hf
          exact hr 47 _ dX6_isShiftTold_47 z_0
        · refine r_if_eq (pc := 39) (tgt := 46) h dX6_isShiftTold_39 (by decide) (fun q => absurd q hc16) (fun _ => ?_)
          refine r_iconst (pc := 42) (v := 1) h dX6_isShiftTold_42 (by decide) ?_
          refine r_goto (pc := 43) (tgt := 47) h dX6_isShiftTold_43 (by decide) ?_
          have hf := Option.some.inj hf
          subst hf
          exact hr 47 _ dX6_isShiftTold_47 z_1
theorem c_X6_isShiftTold {u : St} {l0 : Int32} {r : Int32} (hf : f_X6_isShiftTold u l0 = some r) : CtI shX yX6_isShiftTold cX6_isShiftTold 1 (some .boolean) rm_X6_isShiftTold [.inl l0] u r u := ct_Z (by decide +kernel) (Nat.le_of_ble_eq_true rfl) (fun K E h hr => w_X6_isShiftTold_0 h hr _ hf)
