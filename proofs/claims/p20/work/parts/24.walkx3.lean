set_option maxRecDepth 100000 in
set_option maxHeartbeats 4000000 in
theorem w_X4_isFull_0 {K : Kx} {E : Ex} (h : Ok shX K E RX4 cX4_isFull 1 rm_X4_isFull) {r : Int32} {u : St} (hr : RetZ shX K E cX4_isFull 1 r u)  (hf : f_X4_isFull u = some r) : Vd shX K E 1 0 [some (.inr 15)] [] u := by
  refine r_aload_n (pc := 0) h dX4_isFull_0 rfl ?_
  refine gf_X4_27 (pc := 1) (v := (u 15 5)) h rfl dX4_isFull_1 ?_
  refine r_bipush (pc := 4) (v := 12) h dX4_isFull_4 (by decide) ?_
  refine p_ite hf (fun hc1 hf => ?_) (fun hc1 hf => ?_)
  · refine r_icmp_lt (pc := 6) (tgt := 13) h dX4_isFull_6 (by decide) (fun _ => ?_) (fun q => absurd hc1 q)
    refine r_iconst (pc := 13) (v := 0) h dX4_isFull_13 (by decide) ?_
    have hf := Option.some.inj hf
    subst hf
    exact hr 14 _ dX4_isFull_14 z_0
  · refine r_icmp_lt (pc := 6) (tgt := 13) h dX4_isFull_6 (by decide) (fun q => absurd q hc1) (fun _ => ?_)
    refine r_iconst (pc := 9) (v := 1) h dX4_isFull_9 (by decide) ?_
    refine r_goto (pc := 10) (tgt := 14) h dX4_isFull_10 (by decide) ?_
    have hf := Option.some.inj hf
    subst hf
    exact hr 14 _ dX4_isFull_14 z_1
theorem c_X4_isFull {u : St} {r : Int32} (hf : f_X4_isFull u = some r) : CtI shX yX4_isFull cX4_isFull 1 (some .boolean) rm_X4_isFull [.inr 15] u r u := ct_Z (by decide +kernel) (Nat.le_of_ble_eq_true rfl) (fun K E h hr => w_X4_isFull_0 h hr  hf)
set_option maxRecDepth 100000 in
set_option maxHeartbeats 4000000 in
theorem w_X4_add_0 {K : Kx} {E : Ex} (h : Ok shX K E RX4 cX4_add 6 rm_X4_add) {r : Int32 × St} (hr : RetI shX K E cX4_add 6 r.1 r.2) (u : St) (l1 l2 l3 l4 : Int32) (hf : f_X4_add u l1 l2 l3 l4 = some r) : Vd shX K E 6 0 [some (.inr 15), some (.inl l1), some (.inl l2), some (.inl l3), some (.inl l4), none] [] u := by
  refine r_aload_n (pc := 0) h dX4_add_0 rfl ?_
  refine gf_X4_27 (pc := 1) (v := (u 15 5)) h rfl dX4_add_1 ?_
  refine r_istore (pc := 4) (L' := [some (.inr 15), some (.inl l1), some (.inl l2), some (.inl l3), some (.inl l4), some (.inl (u 15 5))]) h dX4_add_4 (by decide) rfl ?_
  refine r_iload (pc := 6) h dX4_add_6 rfl ?_
  refine p_ite hf (fun hc1 hf => ?_) (fun hc1 hf => ?_)
  · refine r_if_lt (pc := 8) (tgt := 18) h dX4_add_8 (by decide) (fun _ => ?_) (fun q => absurd hc1 q)
    refine r_iload (pc := 18) h dX4_add_18 rfl ?_
    have hf := Option.some.inj hf
    subst hf
    exact hr 20 _ dX4_add_20
  · refine r_if_lt (pc := 8) (tgt := 18) h dX4_add_8 (by decide) (fun q => absurd q hc1) (fun _ => ?_)
    refine r_iload (pc := 11) h dX4_add_11 rfl ?_
    refine r_bipush (pc := 13) (v := 12) h dX4_add_13 (by decide) ?_
    refine p_ite hf (fun hc2 hf => ?_) (fun hc2 hf => ?_)
    · refine r_icmp_lt (pc := 15) (tgt := 21) h dX4_add_15 (by decide) (fun _ => ?_) (fun q => absurd hc2 q)
      refine r_aload_n (pc := 21) h dX4_add_21 rfl ?_
      refine gf_X4_9 (pc := 22) h dX4_add_22 ?_
      refine r_iload (pc := 25) h dX4_add_25 rfl ?_
      refine r_iload_n (pc := 27) h dX4_add_27 rfl ?_
      refine p_g hf (fun hi3 hf => ?_)
      refine r_iast (pc := 28) (k := 16) h hshX_16 hi3 dX4_add_28 ?_
      refine r_aload_n (pc := 29) h dX4_add_29 rfl ?_
      refine gf_X4_15 (pc := 30) h dX4_add_30 ?_
      refine r_iload (pc := 33) h dX4_add_33 rfl ?_
      refine r_iload_n (pc := 35) h dX4_add_35 rfl ?_
      refine r_iast (pc := 36) (k := 17) h hshX_17 hi3 dX4_add_36 ?_
      refine r_aload_n (pc := 37) h dX4_add_37 rfl ?_
      refine gf_X4_18 (pc := 38) h dX4_add_38 ?_
      refine r_iload (pc := 41) h dX4_add_41 rfl ?_
      refine r_iload_n (pc := 43) h dX4_add_43 rfl ?_
      refine r_iast (pc := 44) (k := 18) h hshX_18 hi3 dX4_add_44 ?_
      refine r_aload_n (pc := 45) h dX4_add_45 rfl ?_
      refine gf_X4_21 (pc := 46) h dX4_add_46 ?_
      refine r_iload (pc := 49) h dX4_add_49 rfl ?_
      refine r_iload (pc := 51) h dX4_add_51 rfl ?_
      refine r_iast (pc := 53) (k := 19) h hshX_19 hi3 dX4_add_53 ?_
      refine r_aload_n (pc := 54) h dX4_add_54 rfl ?_
      refine r_dup (pc := 55) h dX4_add_55 ?_
      refine gf_X4_27 (pc := 56) (v := (u 15 5)) h rfl dX4_add_56 ?_
      refine r_iconst (pc := 59) (v := 1) h dX4_add_59 (by decide) ?_
      refine r_iadd (pc := 60) h dX4_add_60 ?_
      refine pf_X4_27 (pc := 61) h dX4_add_61 ?_
      refine r_iload (pc := 64) h dX4_add_64 rfl ?_
      have hf := Option.some.inj hf
      subst hf
      exact hr 66 _ dX4_add_66
    · refine r_icmp_lt (pc := 15) (tgt := 21) h dX4_add_15 (by decide) (fun q => absurd q hc2) (fun _ => ?_)
      refine r_iload (pc := 18) h dX4_add_18 rfl ?_
      have hf := Option.some.inj hf
      subst hf
      exact hr 20 _ dX4_add_20
theorem c_X4_add {u : St} {l1 l2 l3 l4 : Int32} {r : Int32 × St} (hf : f_X4_add u l1 l2 l3 l4 = some r) : CtI shX yX4_add cX4_add 6 (some .int) rm_X4_add [.inr 15, .inl l1, .inl l2, .inl l3, .inl l4] u r.1 r.2 := ct_I (by decide +kernel) (Nat.le_of_ble_eq_true rfl) (fun K E h hr => w_X4_add_0 h hr _ _ _ _ _ hf)
set_option maxRecDepth 100000 in
set_option maxHeartbeats 4000000 in
theorem w_X6_shift_0 {K : Kx} {E : Ex} (h : Ok shX K E RX6 cX6_shift 5 rm_X6_shift) {r : Int32 × St} (hr : RetI shX K E cX6_shift 5 r.1 r.2) (u : St) (l1 l2 l3 l4 : Int32) (hf : f_X6_shift u l1 l2 l3 l4 = some r) : Vd shX K E 5 0 [some (.inr 0), some (.inl l1), some (.inl l2), some (.inl l3), some (.inl l4)] [] u := by
  refine r_iload_n (pc := 0) h dX6_shift_0 rfl ?_
  refine p_b hf (fun q1 e2 hf => ?_)
  refine r_cSi (pc := 1) (st := []) h [.inl l1] cs_X6_isShiftTold wm_X6_146 (c_X6_isShiftTold e2) ⟨rfl, rfl, Nat.le_of_ble_eq_true rfl, Nat.le_of_ble_eq_true rfl⟩ (Nat.le_of_ble_eq_true rfl) dX6_shift_1 ?_
  refine p_ite hf (fun hc3 hf => ?_) (fun hc3 hf => ?_)
  · refine r_if_eq (pc := 4) (tgt := 44) h dX6_shift_4 (by decide) (fun _ => ?_) (fun q => absurd hc3 q)
    refine r_aload_n (pc := 44) h dX6_shift_44 rfl ?_
    refine r_iconst (pc := 45) (v := 1) h dX6_shift_45 (by decide) ?_
    refine p_b hf (fun q4 e5 hf => ?_)
    refine r_cVi (pc := 46) (k := 0) (st := []) h [.inl 1] cv_X6_finding wm_X6_72 (c_X6_finding e5) ⟨rfl, rfl, Nat.le_of_ble_eq_true rfl, Nat.le_of_ble_eq_true rfl⟩ hshX_0 rfl rfl (Nat.le_of_ble_eq_true rfl) dX6_shift_46 ?_
    have hf := Option.some.inj hf
    subst hf
    exact hr 49 _ dX6_shift_49
  · refine r_if_eq (pc := 4) (tgt := 44) h dX6_shift_4 (by decide) (fun q => absurd q hc3) (fun _ => ?_)
    refine r_iload_n (pc := 7) h dX6_shift_7 rfl ?_
    refine r_iconst (pc := 8) (v := 0) h dX6_shift_8 (by decide) ?_
    refine r_sipush (pc := 9) (v := 20000) h dX6_shift_9 (by decide) ?_
    refine p_b hf (fun q6 e7 hf => ?_)
    refine r_cSi (pc := 12) (st := []) h [.inl l2, .inl 0, .inl 20000] cs_X6_isWithin wm_X6_88 (c_X6_isWithin e7) ⟨rfl, rfl, Nat.le_of_ble_eq_true rfl, Nat.le_of_ble_eq_true rfl⟩ (Nat.le_of_ble_eq_true rfl) dX6_shift_12 ?_
    refine p_ite hf (fun hc8 hf => ?_) (fun hc8 hf => ?_)
    · refine r_if_eq (pc := 15) (tgt := 44) h dX6_shift_15 (by decide) (fun _ => ?_) (fun q => absurd hc8 q)
      refine r_aload_n (pc := 44) h dX6_shift_44 rfl ?_
      refine r_iconst (pc := 45) (v := 1) h dX6_shift_45 (by decide) ?_
      refine p_b hf (fun q9 e10 hf => ?_)
      refine r_cVi (pc := 46) (k := 0) (st := []) h [.inl 1] cv_X6_finding wm_X6_72 (c_X6_finding e10) ⟨rfl, rfl, Nat.le_of_ble_eq_true rfl, Nat.le_of_ble_eq_true rfl⟩ hshX_0 rfl rfl (Nat.le_of_ble_eq_true rfl) dX6_shift_46 ?_
      have hf := Option.some.inj hf
      subst hf
      exact hr 49 _ dX6_shift_49
    · refine r_if_eq (pc := 15) (tgt := 44) h dX6_shift_15 (by decide) (fun q => absurd q hc8) (fun _ => ?_)
      refine r_iload_n (pc := 18) h dX6_shift_18 rfl ?_
      refine r_iconst (pc := 19) (v := 0) h dX6_shift_19 (by decide) ?_
      refine r_sipush (pc := 20) (v := 20000) h dX6_shift_20 (by decide) ?_
      refine p_b hf (fun q11 e12 hf => ?_)
      refine r_cSi (pc := 23) (st := []) h [.inl l3, .inl 0, .inl 20000] cs_X6_isWithin wm_X6_88 (c_X6_isWithin e12) ⟨rfl, rfl, Nat.le_of_ble_eq_true rfl, Nat.le_of_ble_eq_true rfl⟩ (Nat.le_of_ble_eq_true rfl) dX6_shift_23 ?_
      refine p_ite hf (fun hc13 hf => ?_) (fun hc13 hf => ?_)
      · refine r_if_eq (pc := 26) (tgt := 44) h dX6_shift_26 (by decide) (fun _ => ?_) (fun q => absurd hc13 q)
        refine r_aload_n (pc := 44) h dX6_shift_44 rfl ?_
        refine r_iconst (pc := 45) (v := 1) h dX6_shift_45 (by decide) ?_
        refine p_b hf (fun q14 e15 hf => ?_)
        refine r_cVi (pc := 46) (k := 0) (st := []) h [.inl 1] cv_X6_finding wm_X6_72 (c_X6_finding e15) ⟨rfl, rfl, Nat.le_of_ble_eq_true rfl, Nat.le_of_ble_eq_true rfl⟩ hshX_0 rfl rfl (Nat.le_of_ble_eq_true rfl) dX6_shift_46 ?_
        have hf := Option.some.inj hf
        subst hf
        exact hr 49 _ dX6_shift_49
      · refine r_if_eq (pc := 26) (tgt := 44) h dX6_shift_26 (by decide) (fun q => absurd q hc13) (fun _ => ?_)
        refine r_iload_n (pc := 29) h dX6_shift_29 rfl ?_
        refine r_iload_n (pc := 30) h dX6_shift_30 rfl ?_
        refine p_ite hf (fun hc16 hf => ?_) (fun hc16 hf => ?_)
        · refine r_icmp_le (pc := 31) (tgt := 44) h dX6_shift_31 (by decide) (fun _ => ?_) (fun q => absurd hc16 q)
          refine r_aload_n (pc := 44) h dX6_shift_44 rfl ?_
          refine r_iconst (pc := 45) (v := 1) h dX6_shift_45 (by decide) ?_
          refine p_b hf (fun q17 e18 hf => ?_)
          refine r_cVi (pc := 46) (k := 0) (st := []) h [.inl 1] cv_X6_finding wm_X6_72 (c_X6_finding e18) ⟨rfl, rfl, Nat.le_of_ble_eq_true rfl, Nat.le_of_ble_eq_true rfl⟩ hshX_0 rfl rfl (Nat.le_of_ble_eq_true rfl) dX6_shift_46 ?_
          have hf := Option.some.inj hf
          subst hf
          exact hr 49 _ dX6_shift_49
        · refine r_icmp_le (pc := 31) (tgt := 44) h dX6_shift_31 (by decide) (fun q => absurd q hc16) (fun _ => ?_)
          refine r_iload (pc := 34) h dX6_shift_34 rfl ?_
          refine r_iconst (pc := 36) (v := 0) h dX6_shift_36 (by decide) ?_
          refine r_iconst (pc := 37) (v := 3) h dX6_shift_37 (by decide) ?_
          refine p_b hf (fun q19 e20 hf => ?_)
          refine r_cSi (pc := 38) (st := []) h [.inl l4, .inl 0, .inl 3] cs_X6_isWithin wm_X6_88 (c_X6_isWithin e20) ⟨rfl, rfl, Nat.le_of_ble_eq_true rfl, Nat.le_of_ble_eq_true rfl⟩ (Nat.le_of_ble_eq_true rfl) dX6_shift_38 ?_
          refine p_ite hf (fun hc21 hf => ?_) (fun hc21 hf => ?_)
          · refine r_if_ne (pc := 41) (tgt := 50) h dX6_shift_41 (by decide) (fun q => absurd hc21 q) (fun _ => ?_)
            refine r_aload_n (pc := 44) h dX6_shift_44 rfl ?_
            refine r_iconst (pc := 45) (v := 1) h dX6_shift_45 (by decide) ?_
            refine p_b hf (fun q29 e30 hf => ?_)
            refine r_cVi (pc := 46) (k := 0) (st := []) h [.inl 1] cv_X6_finding wm_X6_72 (c_X6_finding e30) ⟨rfl, rfl, Nat.le_of_ble_eq_true rfl, Nat.le_of_ble_eq_true rfl⟩ hshX_0 rfl rfl (Nat.le_of_ble_eq_true rfl) dX6_shift_46 ?_
            have hf := Option.some.inj hf
            subst hf
            exact hr 49 _ dX6_shift_49
          · refine r_if_ne (pc := 41) (tgt := 50) h dX6_shift_41 (by decide) (fun _ => ?_) (fun q => absurd q hc21)
            refine r_aload_n (pc := 50) h dX6_shift_50 rfl ?_
            refine gf_X6_35 (pc := 51) h dX6_shift_51 ?_
            refine p_b hf (fun q22 e23 hf => ?_)
            refine r_cVi (pc := 54) (k := 15) (st := []) h [] cv_X4_isFull wm_X6_149 (c_X4_isFull e23) ⟨rfl, rfl, Nat.le_of_ble_eq_true rfl, Nat.le_of_ble_eq_true rfl⟩ hshX_15 rfl rfl (Nat.le_of_ble_eq_true rfl) dX6_shift_54 ?_
            refine p_ite hf (fun hc24 hf => ?_) (fun hc24 hf => ?_)
            · refine r_if_eq (pc := 57) (tgt := 66) h dX6_shift_57 (by decide) (fun _ => ?_) (fun q => absurd hc24 q)
              refine r_aload_n (pc := 66) h dX6_shift_66 rfl ?_
              refine gf_X6_35 (pc := 67) h dX6_shift_67 ?_
              refine r_iload_n (pc := 70) h dX6_shift_70 rfl ?_
              refine r_iload_n (pc := 71) h dX6_shift_71 rfl ?_
              refine r_iload_n (pc := 72) h dX6_shift_72 rfl ?_
              refine r_iload (pc := 73) h dX6_shift_73 rfl ?_
              refine p_b hf (fun q25 e26 hf => ?_)
              refine r_cVi (pc := 75) (k := 15) (st := []) h [.inl l1, .inl l2, .inl l3, .inl l4] cv_X4_add wm_X6_150 (c_X4_add e26) ⟨rfl, rfl, Nat.le_of_ble_eq_true rfl, Nat.le_of_ble_eq_true rfl⟩ hshX_15 rfl rfl (Nat.le_of_ble_eq_true rfl) dX6_shift_75 ?_
              have hf := Option.some.inj hf
              subst hf
              exact hr 78 _ dX6_shift_78
            · refine r_if_eq (pc := 57) (tgt := 66) h dX6_shift_57 (by decide) (fun q => absurd q hc24) (fun _ => ?_)
              refine r_aload_n (pc := 60) h dX6_shift_60 rfl ?_
              refine r_iconst (pc := 61) (v := 4) h dX6_shift_61 (by decide) ?_
              refine p_b hf (fun q27 e28 hf => ?_)
              refine r_cVi (pc := 62) (k := 0) (st := []) h [.inl 4] cv_X6_finding wm_X6_72 (c_X6_finding e28) ⟨rfl, rfl, Nat.le_of_ble_eq_true rfl, Nat.le_of_ble_eq_true rfl⟩ hshX_0 rfl rfl (Nat.le_of_ble_eq_true rfl) dX6_shift_62 ?_
              have hf := Option.some.inj hf
              subst hf
              exact hr 65 _ dX6_shift_65
theorem c_X6_shift {u : St} {l1 l2 l3 l4 : Int32} {r : Int32 × St} (hf : f_X6_shift u l1 l2 l3 l4 = some r) : CtI shX yX6_shift cX6_shift 5 (some .int) rm_X6_shift [.inr 0, .inl l1, .inl l2, .inl l3, .inl l4] u r.1 r.2 := ct_I (by decide +kernel) (Nat.le_of_ble_eq_true rfl) (fun K E h hr => w_X6_shift_0 h hr _ _ _ _ _ hf)
set_option maxRecDepth 100000 in
set_option maxHeartbeats 4000000 in
theorem w_X4_dropLatest_0 {K : Kx} {E : Ex} (h : Ok shX K E RX4 cX4_dropLatest 1 rm_X4_dropLatest) {r : Int32 × St} (hr : RetI shX K E cX4_dropLatest 1 r.1 r.2) (u : St) (hf : f_X4_dropLatest u = some r) : Vd shX K E 1 0 [some (.inr 15)] [] u := by
  refine r_aload_n (pc := 0) h dX4_dropLatest_0 rfl ?_
  refine r_iconst (pc := 1) (v := 0) h dX4_dropLatest_1 (by decide) ?_
  refine r_aload_n (pc := 2) h dX4_dropLatest_2 rfl ?_
  refine gf_X4_27 (pc := 3) (v := (u 15 5)) h rfl dX4_dropLatest_3 ?_
  refine r_iconst (pc := 6) (v := 1) h dX4_dropLatest_6 (by decide) ?_
  refine r_isub (pc := 7) h dX4_dropLatest_7 ?_
  refine r_mmax (pc := 8) (st := [.inr 15]) h wm_X4_31 ⟨Nat.le_of_ble_eq_true rfl, Nat.le_of_ble_eq_true rfl⟩ dX4_dropLatest_8 ?_
  refine pf_X4_27 (pc := 11) h dX4_dropLatest_11 ?_
  refine r_aload_n (pc := 14) h dX4_dropLatest_14 rfl ?_
  refine gf_X4_27 (pc := 15) (v := (jmax 0 ((u 15 5) - 1))) h rfl dX4_dropLatest_15 ?_
  have hf := Option.some.inj hf
  subst hf
  exact hr 18 _ dX4_dropLatest_18
theorem c_X4_dropLatest {u : St} {r : Int32 × St} (hf : f_X4_dropLatest u = some r) : CtI shX yX4_dropLatest cX4_dropLatest 1 (some .int) rm_X4_dropLatest [.inr 15] u r.1 r.2 := ct_I (by decide +kernel) (Nat.le_of_ble_eq_true rfl) (fun K E h hr => w_X4_dropLatest_0 h hr _ hf)
set_option maxRecDepth 100000 in
set_option maxHeartbeats 4000000 in
theorem w_X6_less_0 {K : Kx} {E : Ex} (h : Ok shX K E RX6 cX6_less 1 rm_X6_less) {r : Int32 × St} (hr : RetI shX K E cX6_less 1 r.1 r.2) (u : St) (hf : f_X6_less u = some r) : Vd shX K E 1 0 [some (.inr 0)] [] u := by
  refine r_aload_n (pc := 0) h dX6_less_0 rfl ?_
  refine gf_X6_35 (pc := 1) h dX6_less_1 ?_
  refine gf_X6_153 (pc := 4) (v := (u 15 5)) h rfl dX6_less_4 ?_
  refine p_ite hf (fun hc1 hf => ?_) (fun hc1 hf => ?_)
  · refine r_if_ne (pc := 7) (tgt := 16) h dX6_less_7 (by decide) (fun q => absurd hc1 q) (fun _ => ?_)
    refine r_aload_n (pc := 10) h dX6_less_10 rfl ?_
    refine r_iconst (pc := 11) (v := 2) h dX6_less_11 (by decide) ?_
    refine p_b hf (fun q4 e5 hf => ?_)
    refine r_cVi (pc := 12) (k := 0) (st := []) h [.inl 2] cv_X6_finding wm_X6_72 (c_X6_finding e5) ⟨rfl, rfl, Nat.le_of_ble_eq_true rfl, Nat.le_of_ble_eq_true rfl⟩ hshX_0 rfl rfl (Nat.le_of_ble_eq_true rfl) dX6_less_12 ?_
    have hf := Option.some.inj hf
    subst hf
    exact hr 15 _ dX6_less_15
  · refine r_if_ne (pc := 7) (tgt := 16) h dX6_less_7 (by decide) (fun _ => ?_) (fun q => absurd q hc1)
    refine r_aload_n (pc := 16) h dX6_less_16 rfl ?_
    refine gf_X6_35 (pc := 17) h dX6_less_17 ?_
    refine p_b hf (fun q2 e3 hf => ?_)
    refine r_cVi (pc := 20) (k := 15) (st := []) h [] cv_X4_dropLatest wm_X6_156 (c_X4_dropLatest e3) ⟨rfl, rfl, Nat.le_of_ble_eq_true rfl, Nat.le_of_ble_eq_true rfl⟩ hshX_15 rfl rfl (Nat.le_of_ble_eq_true rfl) dX6_less_20 ?_
    have hf := Option.some.inj hf
    subst hf
    exact hr 23 _ dX6_less_23
theorem c_X6_less {u : St} {r : Int32 × St} (hf : f_X6_less u = some r) : CtI shX yX6_less cX6_less 1 (some .int) rm_X6_less [.inr 0] u r.1 r.2 := ct_I (by decide +kernel) (Nat.le_of_ble_eq_true rfl) (fun K E h hr => w_X6_less_0 h hr _ hf)
set_option maxRecDepth 100000 in
set_option maxHeartbeats 4000000 in
theorem w_X4_wayBetween_0 {K : Kx} {E : Ex} (h : Ok shX K E RX4 cX4_wayBetween 3 rm_X4_wayBetween) {r : Int32} {u : St} (hr : RetI shX K E cX4_wayBetween 3 r u) (l1 l2 : Int32) (hf : f_X4_wayBetween u l1 l2 = some r) : Vd shX K E 3 0 [some (.inr 15), some (.inl l1), some (.inl l2)] [] u := by
  refine r_iload_n (pc := 0) h dX4_wayBetween_0 rfl ?_
  refine r_iconst (pc := 1) (v := 0) h dX4_wayBetween_1 (by decide) ?_
  refine r_iconst (pc := 2) (v := 5) h dX4_wayBetween_2 (by decide) ?_
  refine p_b hf (fun q1 e2 hf => ?_)
  refine r_cNi (pc := 3) (st := []) h [.inl l1, .inl 0, .inl 5] cs_X6_isWithin nm_X4_51 (c_X6_isWithin e2) ⟨rfl, rfl, Nat.le_of_ble_eq_true rfl, Nat.le_of_ble_eq_true rfl⟩ (Nat.le_of_ble_eq_true rfl) dX4_wayBetween_3 ?_
  refine p_ite hf (fun hc3 hf => ?_) (fun hc3 hf => ?_)
  · refine r_if_eq (pc := 6) (tgt := 32) h dX4_wayBetween_6 (by decide) (fun _ => ?_) (fun q => absurd hc3 q)
    refine r_iconst (pc := 32) (v := 0) h dX4_wayBetween_32 (by decide) ?_
    have hf := Option.some.inj hf
    subst hf
    exact hr 33 _ dX4_wayBetween_33
  · refine r_if_eq (pc := 6) (tgt := 32) h dX4_wayBetween_6 (by decide) (fun q => absurd q hc3) (fun _ => ?_)
    refine r_iload_n (pc := 9) h dX4_wayBetween_9 rfl ?_
    refine r_iconst (pc := 10) (v := 0) h dX4_wayBetween_10 (by decide) ?_
    refine r_iconst (pc := 11) (v := 5) h dX4_wayBetween_11 (by decide) ?_
    refine p_b hf (fun q4 e5 hf => ?_)
    refine r_cNi (pc := 12) (st := []) h [.inl l2, .inl 0, .inl 5] cs_X6_isWithin nm_X4_51 (c_X6_isWithin e5) ⟨rfl, rfl, Nat.le_of_ble_eq_true rfl, Nat.le_of_ble_eq_true rfl⟩ (Nat.le_of_ble_eq_true rfl) dX4_wayBetween_12 ?_
    refine p_ite hf (fun hc6 hf => ?_) (fun hc6 hf => ?_)
    · refine r_if_eq (pc := 15) (tgt := 32) h dX4_wayBetween_15 (by decide) (fun _ => ?_) (fun q => absurd hc6 q)
      refine r_iconst (pc := 32) (v := 0) h dX4_wayBetween_32 (by decide) ?_
      have hf := Option.some.inj hf
      subst hf
      exact hr 33 _ dX4_wayBetween_33
    · refine r_if_eq (pc := 15) (tgt := 32) h dX4_wayBetween_15 (by decide) (fun q => absurd q hc6) (fun _ => ?_)
      refine r_aload_n (pc := 18) h dX4_wayBetween_18 rfl ?_
      refine gf_X4_24 (pc := 19) h dX4_wayBetween_19 ?_
      refine r_iload_n (pc := 22) h dX4_wayBetween_22 rfl ?_
      refine r_bipush (pc := 23) (v := 6) h dX4_wayBetween_23 (by decide) ?_
      refine r_imul (pc := 25) h dX4_wayBetween_25 ?_
      refine r_iload_n (pc := 26) h dX4_wayBetween_26 rfl ?_
      refine r_iadd (pc := 27) h dX4_wayBetween_27 ?_
      refine p_g hf (fun hi7 hf => ?_)
      refine r_iald (pc := 28) (k := 20) (v := (u 20 ((l1 * 6) + l2).toNatClampNeg)) h hshX_20 hi7 rfl dX4_wayBetween_28 ?_
      refine r_goto (pc := 29) (tgt := 33) h dX4_wayBetween_29 (by decide) ?_
      have hf := Option.some.inj hf
      subst hf
      exact hr 33 _ dX4_wayBetween_33
theorem c_X4_wayBetween {u : St} {l1 l2 : Int32} {r : Int32} (hf : f_X4_wayBetween u l1 l2 = some r) : CtI shX yX4_wayBetween cX4_wayBetween 3 (some .int) rm_X4_wayBetween [.inr 15, .inl l1, .inl l2] u r u := ct_I (by decide +kernel) (Nat.le_of_ble_eq_true rfl) (fun K E h hr => w_X4_wayBetween_0 h hr _ _ hf)
set_option maxRecDepth 100000 in
set_option maxHeartbeats 4000000 in
theorem w_X4_setWay_0 {K : Kx} {E : Ex} (h : Ok shX K E RX4 cX4_setWay 5 rm_X4_setWay) {r : Int32 × St} (hr : RetI shX K E cX4_setWay 5 r.1 r.2) (u : St) (l1 l2 l3 : Int32) (hf : f_X4_setWay u l1 l2 l3 = some r) : Vd shX K E 5 0 [some (.inr 15), some (.inl l1), some (.inl l2), some (.inl l3), none] [] u := by
  refine r_aload_n (pc := 0) h dX4_setWay_0 rfl ?_
  refine r_iload_n (pc := 1) h dX4_setWay_1 rfl ?_
  refine r_iload_n (pc := 2) h dX4_setWay_2 rfl ?_
  refine p_b hf (fun q1 e2 hf => ?_)
  refine r_cVi (pc := 3) (k := 15) (st := []) h [.inl l1, .inl l2] cv_X4_wayBetween wm_X4_48 (c_X4_wayBetween e2) ⟨rfl, rfl, Nat.le_of_ble_eq_true rfl, Nat.le_of_ble_eq_true rfl⟩ hshX_15 rfl rfl (Nat.le_of_ble_eq_true rfl) dX4_setWay_3 ?_
  refine r_istore (pc := 6) (L' := [some (.inr 15), some (.inl l1), some (.inl l2), some (.inl l3), some (.inl q1)]) h dX4_setWay_6 (by decide) rfl ?_
  refine r_iload_n (pc := 8) h dX4_setWay_8 rfl ?_
  refine r_iconst (pc := 9) (v := 0) h dX4_setWay_9 (by decide) ?_
  refine r_iconst (pc := 10) (v := 5) h dX4_setWay_10 (by decide) ?_
  refine p_b hf (fun q3 e4 hf => ?_)
  refine r_cNi (pc := 11) (st := []) h [.inl l1, .inl 0, .inl 5] cs_X6_isWithin nm_X4_51 (c_X6_isWithin e4) ⟨rfl, rfl, Nat.le_of_ble_eq_true rfl, Nat.le_of_ble_eq_true rfl⟩ (Nat.le_of_ble_eq_true rfl) dX4_setWay_11 ?_
  refine p_ite hf (fun hc5 hf => ?_) (fun hc5 hf => ?_)
  · refine r_if_eq (pc := 14) (tgt := 50) h dX4_setWay_14 (by decide) (fun _ => ?_) (fun q => absurd hc5 q)
    refine r_iload (pc := 50) h dX4_setWay_50 rfl ?_
    have hf := Option.some.inj hf
    subst hf
    exact hr 52 _ dX4_setWay_52
  · refine r_if_eq (pc := 14) (tgt := 50) h dX4_setWay_14 (by decide) (fun q => absurd q hc5) (fun _ => ?_)
    refine r_iload_n (pc := 17) h dX4_setWay_17 rfl ?_
    refine r_iconst (pc := 18) (v := 0) h dX4_setWay_18 (by decide) ?_
    refine r_iconst (pc := 19) (v := 5) h dX4_setWay_19 (by decide) ?_
    refine p_b hf (fun q6 e7 hf => ?_)
    refine r_cNi (pc := 20) (st := []) h [.inl l2, .inl 0, .inl 5] cs_X6_isWithin nm_X4_51 (c_X6_isWithin e7) ⟨rfl, rfl, Nat.le_of_ble_eq_true rfl, Nat.le_of_ble_eq_true rfl⟩ (Nat.le_of_ble_eq_true rfl) dX4_setWay_20 ?_
    refine p_ite hf (fun hc8 hf => ?_) (fun hc8 hf => ?_)
    · refine r_if_eq (pc := 23) (tgt := 50) h dX4_setWay_23 (by decide) (fun _ => ?_) (fun q => absurd hc8 q)
      refine r_iload (pc := 50) h dX4_setWay_50 rfl ?_
      have hf := Option.some.inj hf
      subst hf
      exact hr 52 _ dX4_setWay_52
    · refine r_if_eq (pc := 23) (tgt := 50) h dX4_setWay_23 (by decide) (fun q => absurd q hc8) (fun _ => ?_)
      refine r_aload_n (pc := 26) h dX4_setWay_26 rfl ?_
      refine gf_X4_24 (pc := 27) h dX4_setWay_27 ?_
      refine r_iload_n (pc := 30) h dX4_setWay_30 rfl ?_
      refine r_bipush (pc := 31) (v := 6) h dX4_setWay_31 (by decide) ?_
      refine r_imul (pc := 33) h dX4_setWay_33 ?_
      refine r_iload_n (pc := 34) h dX4_setWay_34 rfl ?_
      refine r_iadd (pc := 35) h dX4_setWay_35 ?_
      refine r_iload_n (pc := 36) h dX4_setWay_36 rfl ?_
      refine p_g hf (fun hi9 hf => ?_)
      refine r_iast (pc := 37) (k := 20) h hshX_20 hi9 dX4_setWay_37 ?_
      refine r_aload_n (pc := 38) h dX4_setWay_38 rfl ?_
      refine gf_X4_24 (pc := 39) h dX4_setWay_39 ?_
      refine r_iload_n (pc := 42) h dX4_setWay_42 rfl ?_
      refine r_bipush (pc := 43) (v := 6) h dX4_setWay_43 (by decide) ?_
      refine r_imul (pc := 45) h dX4_setWay_45 ?_
      refine r_iload_n (pc := 46) h dX4_setWay_46 rfl ?_
      refine r_iadd (pc := 47) h dX4_setWay_47 ?_
      refine r_iload_n (pc := 48) h dX4_setWay_48 rfl ?_
      refine p_g hf (fun hi10 hf => ?_)
      refine r_iast (pc := 49) (k := 20) h hshX_20 hi10 dX4_setWay_49 ?_
      refine r_iload (pc := 50) h dX4_setWay_50 rfl ?_
      have hf := Option.some.inj hf
      subst hf
      exact hr 52 _ dX4_setWay_52
theorem c_X4_setWay {u : St} {l1 l2 l3 : Int32} {r : Int32 × St} (hf : f_X4_setWay u l1 l2 l3 = some r) : CtI shX yX4_setWay cX4_setWay 5 (some .int) rm_X4_setWay [.inr 15, .inl l1, .inl l2, .inl l3] u r.1 r.2 := ct_I (by decide +kernel) (Nat.le_of_ble_eq_true rfl) (fun K E h hr => w_X4_setWay_0 h hr _ _ _ _ hf)
set_option maxRecDepth 100000 in
set_option maxHeartbeats 4000000 in
theorem w_X6_way_0 {K : Kx} {E : Ex} (h : Ok shX K E RX6 cX6_way 4 rm_X6_way) {r : Int32 × St} (hr : RetI shX K E cX6_way 4 r.1 r.2) (u : St) (l1 l2 l3 : Int32) (hf : f_X6_way u l1 l2 l3 = some r) : Vd shX K E 4 0 [some (.inr 0), some (.inl l1), some (.inl l2), some (.inl l3)] [] u := by
  refine r_iload_n (pc := 0) h dX6_way_0 rfl ?_
  refine r_iconst (pc := 1) (v := 0) h dX6_way_1 (by decide) ?_
  refine r_iconst (pc := 2) (v := 5) h dX6_way_2 (by decide) ?_
  refine p_b hf (fun q1 e2 hf => ?_)
  refine r_cSi (pc := 3) (st := []) h [.inl l1, .inl 0, .inl 5] cs_X6_isWithin wm_X6_88 (c_X6_isWithin e2) ⟨rfl, rfl, Nat.le_of_ble_eq_true rfl, Nat.le_of_ble_eq_true rfl⟩ (Nat.le_of_ble_eq_true rfl) dX6_way_3 ?_
  refine p_ite hf (fun hc3 hf => ?_) (fun hc3 hf => ?_)
  · refine r_if_eq (pc := 6) (tgt := 34) h dX6_way_6 (by decide) (fun _ => ?_) (fun q => absurd hc3 q)
    refine r_aload_n (pc := 34) h dX6_way_34 rfl ?_
    refine r_iconst (pc := 35) (v := 1) h dX6_way_35 (by decide) ?_
    refine p_b hf (fun q4 e5 hf => ?_)
    refine r_cVi (pc := 36) (k := 0) (st := []) h [.inl 1] cv_X6_finding wm_X6_72 (c_X6_finding e5) ⟨rfl, rfl, Nat.le_of_ble_eq_true rfl, Nat.le_of_ble_eq_true rfl⟩ hshX_0 rfl rfl (Nat.le_of_ble_eq_true rfl) dX6_way_36 ?_
    have hf := Option.some.inj hf
    subst hf
    exact hr 39 _ dX6_way_39
  · refine r_if_eq (pc := 6) (tgt := 34) h dX6_way_6 (by decide) (fun q => absurd q hc3) (fun _ => ?_)
    refine r_iload_n (pc := 9) h dX6_way_9 rfl ?_
    refine r_iconst (pc := 10) (v := 0) h dX6_way_10 (by decide) ?_
    refine r_iconst (pc := 11) (v := 5) h dX6_way_11 (by decide) ?_
    refine p_b hf (fun q6 e7 hf => ?_)
    refine r_cSi (pc := 12) (st := []) h [.inl l2, .inl 0, .inl 5] cs_X6_isWithin wm_X6_88 (c_X6_isWithin e7) ⟨rfl, rfl, Nat.le_of_ble_eq_true rfl, Nat.le_of_ble_eq_true rfl⟩ (Nat.le_of_ble_eq_true rfl) dX6_way_12 ?_
    refine p_ite hf (fun hc8 hf => ?_) (fun hc8 hf => ?_)
    · refine r_if_eq (pc := 15) (tgt := 34) h dX6_way_15 (by decide) (fun _ => ?_) (fun q => absurd hc8 q)
      refine r_aload_n (pc := 34) h dX6_way_34 rfl ?_
      refine r_iconst (pc := 35) (v := 1) h dX6_way_35 (by decide) ?_
      refine p_b hf (fun q9 e10 hf => ?_)
      refine r_cVi (pc := 36) (k := 0) (st := []) h [.inl 1] cv_X6_finding wm_X6_72 (c_X6_finding e10) ⟨rfl, rfl, Nat.le_of_ble_eq_true rfl, Nat.le_of_ble_eq_true rfl⟩ hshX_0 rfl rfl (Nat.le_of_ble_eq_true rfl) dX6_way_36 ?_
      have hf := Option.some.inj hf
      subst hf
      exact hr 39 _ dX6_way_39
    · refine r_if_eq (pc := 15) (tgt := 34) h dX6_way_15 (by decide) (fun q => absurd q hc8) (fun _ => ?_)
      refine r_iload_n (pc := 18) h dX6_way_18 rfl ?_
      refine r_iload_n (pc := 19) h dX6_way_19 rfl ?_
      refine p_ite hf (fun hc11 hf => ?_) (fun hc11 hf => ?_)
      · refine r_icmp_eq (pc := 20) (tgt := 34) h dX6_way_20 (by decide) (fun _ => ?_) (fun q => absurd hc11 q)
        refine r_aload_n (pc := 34) h dX6_way_34 rfl ?_
        refine r_iconst (pc := 35) (v := 1) h dX6_way_35 (by decide) ?_
        refine p_b hf (fun q12 e13 hf => ?_)
        refine r_cVi (pc := 36) (k := 0) (st := []) h [.inl 1] cv_X6_finding wm_X6_72 (c_X6_finding e13) ⟨rfl, rfl, Nat.le_of_ble_eq_true rfl, Nat.le_of_ble_eq_true rfl⟩ hshX_0 rfl rfl (Nat.le_of_ble_eq_true rfl) dX6_way_36 ?_
        have hf := Option.some.inj hf
        subst hf
        exact hr 39 _ dX6_way_39
      · refine r_icmp_eq (pc := 20) (tgt := 34) h dX6_way_20 (by decide) (fun q => absurd q hc11) (fun _ => ?_)
        refine r_iload_n (pc := 23) h dX6_way_23 rfl ?_
        refine r_iconst (pc := 24) (v := 0) h dX6_way_24 (by decide) ?_
        refine r_sipush (pc := 25) (v := 600) h dX6_way_25 (by decide) ?_
        refine p_b hf (fun q14 e15 hf => ?_)
        refine r_cSi (pc := 28) (st := []) h [.inl l3, .inl 0, .inl 600] cs_X6_isWithin wm_X6_88 (c_X6_isWithin e15) ⟨rfl, rfl, Nat.le_of_ble_eq_true rfl, Nat.le_of_ble_eq_true rfl⟩ (Nat.le_of_ble_eq_true rfl) dX6_way_28 ?_
        refine p_ite hf (fun hc16 hf => ?_) (fun hc16 hf => ?_)
        · refine r_if_ne (pc := 31) (tgt := 40) h dX6_way_31 (by decide) (fun q => absurd hc16 q) (fun _ => ?_)
          refine r_aload_n (pc := 34) h dX6_way_34 rfl ?_
          refine r_iconst (pc := 35) (v := 1) h dX6_way_35 (by decide) ?_
          refine p_b hf (fun q19 e20 hf => ?_)
          refine r_cVi (pc := 36) (k := 0) (st := []) h [.inl 1] cv_X6_finding wm_X6_72 (c_X6_finding e20) ⟨rfl, rfl, Nat.le_of_ble_eq_true rfl, Nat.le_of_ble_eq_true rfl⟩ hshX_0 rfl rfl (Nat.le_of_ble_eq_true rfl) dX6_way_36 ?_
          have hf := Option.some.inj hf
          subst hf
          exact hr 39 _ dX6_way_39
        · refine r_if_ne (pc := 31) (tgt := 40) h dX6_way_31 (by decide) (fun _ => ?_) (fun q => absurd q hc16)
          refine r_aload_n (pc := 40) h dX6_way_40 rfl ?_
          refine gf_X6_35 (pc := 41) h dX6_way_41 ?_
          refine r_iload_n (pc := 44) h dX6_way_44 rfl ?_
          refine r_iload_n (pc := 45) h dX6_way_45 rfl ?_
          refine r_iload_n (pc := 46) h dX6_way_46 rfl ?_
          refine p_b hf (fun q17 e18 hf => ?_)
          refine r_cVi (pc := 47) (k := 15) (st := []) h [.inl l1, .inl l2, .inl l3] cv_X4_setWay wm_X6_160 (c_X4_setWay e18) ⟨rfl, rfl, Nat.le_of_ble_eq_true rfl, Nat.le_of_ble_eq_true rfl⟩ hshX_15 rfl rfl (Nat.le_of_ble_eq_true rfl) dX6_way_47 ?_
          have hf := Option.some.inj hf
          subst hf
          exact hr 50 _ dX6_way_50
theorem c_X6_way {u : St} {l1 l2 l3 : Int32} {r : Int32 × St} (hf : f_X6_way u l1 l2 l3 = some r) : CtI shX yX6_way cX6_way 4 (some .int) rm_X6_way [.inr 0, .inl l1, .inl l2, .inl l3] u r.1 r.2 := ct_I (by decide +kernel) (Nat.le_of_ble_eq_true rfl) (fun K E h hr => w_X6_way_0 h hr _ _ _ _ hf)
set_option maxRecDepth 100000 in
set_option maxHeartbeats 4000000 in
theorem w_X4_has_0 {K : Kx} {E : Ex} (h : Ok shX K E RX4 cX4_has 2 rm_X4_has) {r : Int32} {u : St} (hr : RetZ shX K E cX4_has 2 r u) (l1 : Int32) (hf : f_X4_has u l1 = some r) : Vd shX K E 2 0 [some (.inr 15), some (.inl l1)] [] u := by
  refine r_iload_n (pc := 0) h dX4_has_0 rfl ?_
  refine p_ite hf (fun hc1 hf => ?_) (fun hc1 hf => ?_)
  · refine r_if_lt (pc := 1) (tgt := 22) h dX4_has_1 (by decide) (fun _ => ?_) (fun q => absurd hc1 q)
    refine r_iconst (pc := 22) (v := 0) h dX4_has_22 (by decide) ?_
    have hf := Option.some.inj hf
    subst hf
    exact hr 23 _ dX4_has_23 z_0
  · refine r_if_lt (pc := 1) (tgt := 22) h dX4_has_1 (by decide) (fun q => absurd q hc1) (fun _ => ?_)
    refine r_iload_n (pc := 4) h dX4_has_4 rfl ?_
    refine r_aload_n (pc := 5) h dX4_has_5 rfl ?_
    refine gf_X4_27 (pc := 6) (v := (u 15 5)) h rfl dX4_has_6 ?_
    refine p_ite hf (fun hc2 hf => ?_) (fun hc2 hf => ?_)
    · refine r_icmp_ge (pc := 9) (tgt := 22) h dX4_has_9 (by decide) (fun _ => ?_) (fun q => absurd hc2 q)
      refine r_iconst (pc := 22) (v := 0) h dX4_has_22 (by decide) ?_
      have hf := Option.some.inj hf
      subst hf
      exact hr 23 _ dX4_has_23 z_0
    · refine r_icmp_ge (pc := 9) (tgt := 22) h dX4_has_9 (by decide) (fun q => absurd q hc2) (fun _ => ?_)
      refine r_iload_n (pc := 12) h dX4_has_12 rfl ?_
      refine r_bipush (pc := 13) (v := 12) h dX4_has_13 (by decide) ?_
      refine p_ite hf (fun hc3 hf => ?_) (fun hc3 hf => ?_)
      · refine r_icmp_ge (pc := 15) (tgt := 22) h dX4_has_15 (by decide) (fun _ => ?_) (fun q => absurd hc3 q)
        refine r_iconst (pc := 22) (v := 0) h dX4_has_22 (by decide) ?_
        have hf := Option.some.inj hf
        subst hf
        exact hr 23 _ dX4_has_23 z_0
      · refine r_icmp_ge (pc := 15) (tgt := 22) h dX4_has_15 (by decide) (fun q => absurd q hc3) (fun _ => ?_)
        refine r_iconst (pc := 18) (v := 1) h dX4_has_18 (by decide) ?_
        refine r_goto (pc := 19) (tgt := 23) h dX4_has_19 (by decide) ?_
        have hf := Option.some.inj hf
        subst hf
        exact hr 23 _ dX4_has_23 z_1
theorem c_X4_has {u : St} {l1 : Int32} {r : Int32} (hf : f_X4_has u l1 = some r) : CtI shX yX4_has cX4_has 2 (some .boolean) rm_X4_has [.inr 15, .inl l1] u r u := ct_Z (by decide +kernel) (Nat.le_of_ble_eq_true rfl) (fun K E h hr => w_X4_has_0 h hr _ hf)
set_option maxRecDepth 100000 in
set_option maxHeartbeats 4000000 in
theorem w_X4_lookBefore_0 {K : Kx} {E : Ex} (h : Ok shX K E RX4 cX4_lookBefore 2 rm_X4_lookBefore) {r : Int32} {u : St} (hr : RetI shX K E cX4_lookBefore 2 r u) (l1 : Int32) (hf : f_X4_lookBefore u l1 = some r) : Vd shX K E 2 0 [some (.inr 15), some (.inl l1)] [] u := by
  refine r_aload_n (pc := 0) h dX4_lookBefore_0 rfl ?_
  refine r_iload_n (pc := 1) h dX4_lookBefore_1 rfl ?_
  refine p_b hf (fun q1 e2 hf => ?_)
  refine r_cVi (pc := 2) (k := 15) (st := []) h [.inl l1] cv_X4_has wm_X4_37 (c_X4_has e2) ⟨rfl, rfl, Nat.le_of_ble_eq_true rfl, Nat.le_of_ble_eq_true rfl⟩ hshX_15 rfl rfl (Nat.le_of_ble_eq_true rfl) dX4_lookBefore_2 ?_
  refine p_ite hf (fun hc3 hf => ?_) (fun hc3 hf => ?_)
  · refine r_if_eq (pc := 5) (tgt := 20) h dX4_lookBefore_5 (by decide) (fun _ => ?_) (fun q => absurd hc3 q)
    refine r_iconst (pc := 20) (v := (-1)) h dX4_lookBefore_20 (by decide) ?_
    have hf := Option.some.inj hf
    subst hf
    exact hr 21 _ dX4_lookBefore_21
  · refine r_if_eq (pc := 5) (tgt := 20) h dX4_lookBefore_5 (by decide) (fun q => absurd q hc3) (fun _ => ?_)
    refine r_aload_n (pc := 8) h dX4_lookBefore_8 rfl ?_
    refine gf_X4_9 (pc := 9) h dX4_lookBefore_9 ?_
    refine r_iload_n (pc := 12) h dX4_lookBefore_12 rfl ?_
    refine p_g hf (fun hi4 hf => ?_)
    refine r_iald (pc := 13) (k := 16) (v := (u 16 l1.toNatClampNeg)) h hshX_16 hi4 rfl dX4_lookBefore_13 ?_
    refine p_b hf (fun q5 e6 hf => ?_)
    refine r_cNi (pc := 14) (st := []) h [.inl (u 16 l1.toNatClampNeg)] cs_X6_beforeIn nm_X4_41 (c_X6_beforeIn e6) ⟨rfl, rfl, Nat.le_of_ble_eq_true rfl, Nat.le_of_ble_eq_true rfl⟩ (Nat.le_of_ble_eq_true rfl) dX4_lookBefore_14 ?_
    refine r_goto (pc := 17) (tgt := 21) h dX4_lookBefore_17 (by decide) ?_
    have hf := Option.some.inj hf
    subst hf
    exact hr 21 _ dX4_lookBefore_21
theorem c_X4_lookBefore {u : St} {l1 : Int32} {r : Int32} (hf : f_X4_lookBefore u l1 = some r) : CtI shX yX4_lookBefore cX4_lookBefore 2 (some .int) rm_X4_lookBefore [.inr 15, .inl l1] u r u := ct_I (by decide +kernel) (Nat.le_of_ble_eq_true rfl) (fun K E h hr => w_X4_lookBefore_0 h hr _ hf)
set_option maxRecDepth 100000 in
set_option maxHeartbeats 4000000 in
theorem w_X4_lookAfter_0 {K : Kx} {E : Ex} (h : Ok shX K E RX4 cX4_lookAfter 2 rm_X4_lookAfter) {r : Int32} {u : St} (hr : RetI shX K E cX4_lookAfter 2 r u) (l1 : Int32) (hf : f_X4_lookAfter u l1 = some r) : Vd shX K E 2 0 [some (.inr 15), some (.inl l1)] [] u := by
  refine r_aload_n (pc := 0) h dX4_lookAfter_0 rfl ?_
  refine r_iload_n (pc := 1) h dX4_lookAfter_1 rfl ?_
  refine p_b hf (fun q1 e2 hf => ?_)
  refine r_cVi (pc := 2) (k := 15) (st := []) h [.inl l1] cv_X4_has wm_X4_37 (c_X4_has e2) ⟨rfl, rfl, Nat.le_of_ble_eq_true rfl, Nat.le_of_ble_eq_true rfl⟩ hshX_15 rfl rfl (Nat.le_of_ble_eq_true rfl) dX4_lookAfter_2 ?_
  refine p_ite hf (fun hc3 hf => ?_) (fun hc3 hf => ?_)
  · refine r_if_eq (pc := 5) (tgt := 20) h dX4_lookAfter_5 (by decide) (fun _ => ?_) (fun q => absurd hc3 q)
    refine r_iconst (pc := 20) (v := (-1)) h dX4_lookAfter_20 (by decide) ?_
    have hf := Option.some.inj hf
    subst hf
    exact hr 21 _ dX4_lookAfter_21
  · refine r_if_eq (pc := 5) (tgt := 20) h dX4_lookAfter_5 (by decide) (fun q => absurd q hc3) (fun _ => ?_)
    refine r_aload_n (pc := 8) h dX4_lookAfter_8 rfl ?_
    refine gf_X4_9 (pc := 9) h dX4_lookAfter_9 ?_
    refine r_iload_n (pc := 12) h dX4_lookAfter_12 rfl ?_
    refine p_g hf (fun hi4 hf => ?_)
    refine r_iald (pc := 13) (k := 16) (v := (u 16 l1.toNatClampNeg)) h hshX_16 hi4 rfl dX4_lookAfter_13 ?_
    refine p_b hf (fun q5 e6 hf => ?_)
    refine r_cNi (pc := 14) (st := []) h [.inl (u 16 l1.toNatClampNeg)] cs_X6_afterIn nm_X4_45 (c_X6_afterIn e6) ⟨rfl, rfl, Nat.le_of_ble_eq_true rfl, Nat.le_of_ble_eq_true rfl⟩ (Nat.le_of_ble_eq_true rfl) dX4_lookAfter_14 ?_
    refine r_goto (pc := 17) (tgt := 21) h dX4_lookAfter_17 (by decide) ?_
    have hf := Option.some.inj hf
    subst hf
    exact hr 21 _ dX4_lookAfter_21
theorem c_X4_lookAfter {u : St} {l1 : Int32} {r : Int32} (hf : f_X4_lookAfter u l1 = some r) : CtI shX yX4_lookAfter cX4_lookAfter 2 (some .int) rm_X4_lookAfter [.inr 15, .inl l1] u r u := ct_I (by decide +kernel) (Nat.le_of_ble_eq_true rfl) (fun K E h hr => w_X4_lookAfter_0 h hr _ hf)
set_option maxRecDepth 100000 in
set_option maxHeartbeats 4000000 in
theorem w_X4_handsOf_0 {K : Kx} {E : Ex} (h : Ok shX K E RX4 cX4_handsOf 2 rm_X4_handsOf) {r : Int32} {u : St} (hr : RetI shX K E cX4_handsOf 2 r u) (l1 : Int32) (hf : f_X4_handsOf u l1 = some r) : Vd shX K E 2 0 [some (.inr 15), some (.inl l1)] [] u := by
  refine r_aload_n (pc := 0) h dX4_handsOf_0 rfl ?_
  refine r_iload_n (pc := 1) h dX4_handsOf_1 rfl ?_
  refine p_b hf (fun q1 e2 hf => ?_)
  refine r_cVi (pc := 2) (k := 15) (st := []) h [.inl l1] cv_X4_has wm_X4_37 (c_X4_has e2) ⟨rfl, rfl, Nat.le_of_ble_eq_true rfl, Nat.le_of_ble_eq_true rfl⟩ hshX_15 rfl rfl (Nat.le_of_ble_eq_true rfl) dX4_handsOf_2 ?_
  refine p_ite hf (fun hc3 hf => ?_) (fun hc3 hf => ?_)
  · refine r_if_eq (pc := 5) (tgt := 17) h dX4_handsOf_5 (by decide) (fun _ => ?_) (fun q => absurd hc3 q)
    refine r_iconst (pc := 17) (v := 0) h dX4_handsOf_17 (by decide) ?_
    have hf := Option.some.inj hf
    subst hf
    exact hr 18 _ dX4_handsOf_18
  · refine r_if_eq (pc := 5) (tgt := 17) h dX4_handsOf_5 (by decide) (fun q => absurd q hc3) (fun _ => ?_)
    refine r_aload_n (pc := 8) h dX4_handsOf_8 rfl ?_
    refine gf_X4_21 (pc := 9) h dX4_handsOf_9 ?_
    refine r_iload_n (pc := 12) h dX4_handsOf_12 rfl ?_
    refine p_g hf (fun hi4 hf => ?_)
    refine r_iald (pc := 13) (k := 19) (v := (u 19 l1.toNatClampNeg)) h hshX_19 hi4 rfl dX4_handsOf_13 ?_
    refine r_goto (pc := 14) (tgt := 18) h dX4_handsOf_14 (by decide) ?_
    have hf := Option.some.inj hf
    subst hf
    exact hr 18 _ dX4_handsOf_18
theorem c_X4_handsOf {u : St} {l1 : Int32} {r : Int32} (hf : f_X4_handsOf u l1 = some r) : CtI shX yX4_handsOf cX4_handsOf 2 (some .int) rm_X4_handsOf [.inr 15, .inl l1] u r u := ct_I (by decide +kernel) (Nat.le_of_ble_eq_true rfl) (fun K E h hr => w_X4_handsOf_0 h hr _ hf)
set_option maxRecDepth 100000 in
set_option maxHeartbeats 4000000 in
theorem w_X4_lengthOf_0 {K : Kx} {E : Ex} (h : Ok shX K E RX4 cX4_lengthOf 2 rm_X4_lengthOf) {r : Int32} {u : St} (hr : RetI shX K E cX4_lengthOf 2 r u) (l1 : Int32) (hf : f_X4_lengthOf u l1 = some r) : Vd shX K E 2 0 [some (.inr 15), some (.inl l1)] [] u := by
  refine r_aload_n (pc := 0) h dX4_lengthOf_0 rfl ?_
  refine r_iload_n (pc := 1) h dX4_lengthOf_1 rfl ?_
  refine p_b hf (fun q1 e2 hf => ?_)
  refine r_cVi (pc := 2) (k := 15) (st := []) h [.inl l1] cv_X4_has wm_X4_37 (c_X4_has e2) ⟨rfl, rfl, Nat.le_of_ble_eq_true rfl, Nat.le_of_ble_eq_true rfl⟩ hshX_15 rfl rfl (Nat.le_of_ble_eq_true rfl) dX4_lengthOf_2 ?_
  refine p_ite hf (fun hc3 hf => ?_) (fun hc3 hf => ?_)
  · refine r_if_eq (pc := 5) (tgt := 24) h dX4_lengthOf_5 (by decide) (fun _ => ?_) (fun q => absurd hc3 q)
    refine r_iconst (pc := 24) (v := 0) h dX4_lengthOf_24 (by decide) ?_
    have hf := Option.some.inj hf
    subst hf
    exact hr 25 _ dX4_lengthOf_25
  · refine r_if_eq (pc := 5) (tgt := 24) h dX4_lengthOf_5 (by decide) (fun q => absurd q hc3) (fun _ => ?_)
    refine r_aload_n (pc := 8) h dX4_lengthOf_8 rfl ?_
    refine gf_X4_18 (pc := 9) h dX4_lengthOf_9 ?_
    refine r_iload_n (pc := 12) h dX4_lengthOf_12 rfl ?_
    refine p_g hf (fun hi4 hf => ?_)
    refine r_iald (pc := 13) (k := 18) (v := (u 18 l1.toNatClampNeg)) h hshX_18 hi4 rfl dX4_lengthOf_13 ?_
    refine r_aload_n (pc := 14) h dX4_lengthOf_14 rfl ?_
    refine gf_X4_15 (pc := 15) h dX4_lengthOf_15 ?_
    refine r_iload_n (pc := 18) h dX4_lengthOf_18 rfl ?_
    refine r_iald (pc := 19) (k := 17) (v := (u 17 l1.toNatClampNeg)) h hshX_17 hi4 rfl dX4_lengthOf_19 ?_
    refine r_isub (pc := 20) h dX4_lengthOf_20 ?_
    refine r_goto (pc := 21) (tgt := 25) h dX4_lengthOf_21 (by decide) ?_
    have hf := Option.some.inj hf
    subst hf
    exact hr 25 _ dX4_lengthOf_25
theorem c_X4_lengthOf {u : St} {l1 : Int32} {r : Int32} (hf : f_X4_lengthOf u l1 = some r) : CtI shX yX4_lengthOf cX4_lengthOf 2 (some .int) rm_X4_lengthOf [.inr 15, .inl l1] u r u := ct_I (by decide +kernel) (Nat.le_of_ble_eq_true rfl) (fun K E h hr => w_X4_lengthOf_0 h hr _ hf)
set_option maxRecDepth 100000 in
set_option maxHeartbeats 4000000 in
theorem w_X6_fits_0 {K : Kx} {E : Ex} (h : Ok shX K E RX6 cX6_fits 2 rm_X6_fits) {r : Int32 × St} (hr : RetI shX K E cX6_fits 2 r.1 r.2) (u : St) (l1 : Int32) (hf : f_X6_fits u l1 = some r) : Vd shX K E 2 0 [some (.inr 0), some (.inl l1)] [] u := by
  refine r_aload_n (pc := 0) h dX6_fits_0 rfl ?_
  refine gf_X6_35 (pc := 1) h dX6_fits_1 ?_
  refine r_iload_n (pc := 4) h dX6_fits_4 rfl ?_
  refine p_b hf (fun q1 e2 hf => ?_)
  refine r_cVi (pc := 5) (k := 15) (st := []) h [.inl l1] cv_X4_has wm_X6_163 (c_X4_has e2) ⟨rfl, rfl, Nat.le_of_ble_eq_true rfl, Nat.le_of_ble_eq_true rfl⟩ hshX_15 rfl rfl (Nat.le_of_ble_eq_true rfl) dX6_fits_5 ?_
  refine p_ite hf (fun hc3 hf => ?_) (fun hc3 hf => ?_)
  · refine r_if_ne (pc := 8) (tgt := 17) h dX6_fits_8 (by decide) (fun q => absurd hc3 q) (fun _ => ?_)
    refine r_aload_n (pc := 11) h dX6_fits_11 rfl ?_
    refine r_iconst (pc := 12) (v := 1) h dX6_fits_12 (by decide) ?_
    refine p_b hf (fun q15 e16 hf => ?_)
    refine r_cVi (pc := 13) (k := 0) (st := []) h [.inl 1] cv_X6_finding wm_X6_72 (c_X6_finding e16) ⟨rfl, rfl, Nat.le_of_ble_eq_true rfl, Nat.le_of_ble_eq_true rfl⟩ hshX_0 rfl rfl (Nat.le_of_ble_eq_true rfl) dX6_fits_13 ?_
    have hf := Option.some.inj hf
    subst hf
    exact hr 16 _ dX6_fits_16
  · refine r_if_ne (pc := 8) (tgt := 17) h dX6_fits_8 (by decide) (fun _ => ?_) (fun q => absurd q hc3)
    refine r_aload_n (pc := 17) h dX6_fits_17 rfl ?_
    refine gf_X6_28 (pc := 18) h dX6_fits_18 ?_
    refine r_aload_n (pc := 21) h dX6_fits_21 rfl ?_
    refine gf_X6_35 (pc := 22) h dX6_fits_22 ?_
    refine r_iload_n (pc := 25) h dX6_fits_25 rfl ?_
    refine p_b hf (fun q4 e5 hf => ?_)
    refine r_cVi (pc := 26) (k := 15) (st := [.inr 7]) h [.inl l1] cv_X4_lookBefore wm_X6_164 (c_X4_lookBefore e5) ⟨rfl, rfl, Nat.le_of_ble_eq_true rfl, Nat.le_of_ble_eq_true rfl⟩ hshX_15 rfl rfl (Nat.le_of_ble_eq_true rfl) dX6_fits_26 ?_
    refine r_aload_n (pc := 29) h dX6_fits_29 rfl ?_
    refine gf_X6_35 (pc := 30) h dX6_fits_30 ?_
    refine r_iload_n (pc := 33) h dX6_fits_33 rfl ?_
    refine p_b hf (fun q6 e7 hf => ?_)
    refine r_cVi (pc := 34) (k := 15) (st := [.inl q4, .inr 7]) h [.inl l1] cv_X4_lookAfter wm_X6_167 (c_X4_lookAfter e7) ⟨rfl, rfl, Nat.le_of_ble_eq_true rfl, Nat.le_of_ble_eq_true rfl⟩ hshX_15 rfl rfl (Nat.le_of_ble_eq_true rfl) dX6_fits_34 ?_
    refine r_aload_n (pc := 37) h dX6_fits_37 rfl ?_
    refine gf_X6_35 (pc := 38) h dX6_fits_38 ?_
    refine r_iload_n (pc := 41) h dX6_fits_41 rfl ?_
    refine p_b hf (fun q8 e9 hf => ?_)
    refine r_cVi (pc := 42) (k := 15) (st := [.inl q6, .inl q4, .inr 7]) h [.inl l1] cv_X4_handsOf wm_X6_170 (c_X4_handsOf e9) ⟨rfl, rfl, Nat.le_of_ble_eq_true rfl, Nat.le_of_ble_eq_true rfl⟩ hshX_15 rfl rfl (Nat.le_of_ble_eq_true rfl) dX6_fits_42 ?_
    refine r_aload_n (pc := 45) h dX6_fits_45 rfl ?_
    refine gf_X6_64 (pc := 46) (v := (u 0 9)) h rfl dX6_fits_46 ?_
    refine p_b hf (fun q10 e11 hf => ?_)
    refine r_cVv (pc := 49) (k := 7) (st := []) h [.inl q4, .inl q6, .inl q8, .inl (u 0 9)] cv_X1_findBest wm_X6_136 (c_X1_findBest e11) ⟨rfl, rfl, Nat.le_of_ble_eq_true rfl, Nat.le_of_ble_eq_true rfl⟩ hshX_7 rfl rfl (Nat.le_of_ble_eq_true rfl) dX6_fits_49 ?_
    refine r_aload_n (pc := 52) h dX6_fits_52 rfl ?_
    refine gf_X6_28 (pc := 53) h dX6_fits_53 ?_
    refine gf_X6_140 (pc := 56) (v := (q10 7 17)) h rfl dX6_fits_56 ?_
    refine r_aload_n (pc := 59) h dX6_fits_59 rfl ?_
    refine gf_X6_35 (pc := 60) h dX6_fits_60 ?_
    refine r_iload_n (pc := 63) h dX6_fits_63 rfl ?_
    refine p_b hf (fun q12 e13 hf => ?_)
    refine r_cVi (pc := 64) (k := 15) (st := [.inl (q10 7 17)]) h [.inl l1] cv_X4_lengthOf wm_X6_173 (c_X4_lengthOf e13) ⟨rfl, rfl, Nat.le_of_ble_eq_true rfl, Nat.le_of_ble_eq_true rfl⟩ hshX_15 rfl rfl (Nat.le_of_ble_eq_true rfl) dX6_fits_64 ?_
    refine p_ite hf (fun hc14 hf => ?_) (fun hc14 hf => ?_)
    · refine r_icmp_gt (pc := 67) (tgt := 74) h dX6_fits_67 (by decide) (fun _ => ?_) (fun q => absurd hc14 q)
      refine r_iconst (pc := 74) (v := 0) h dX6_fits_74 (by decide) ?_
      have hf := Option.some.inj hf
      subst hf
      exact hr 75 _ dX6_fits_75
    · refine r_icmp_gt (pc := 67) (tgt := 74) h dX6_fits_67 (by decide) (fun q => absurd q hc14) (fun _ => ?_)
      refine r_iconst (pc := 70) (v := 1) h dX6_fits_70 (by decide) ?_
      refine r_goto (pc := 71) (tgt := 75) h dX6_fits_71 (by decide) ?_
      have hf := Option.some.inj hf
      subst hf
      exact hr 75 _ dX6_fits_75
theorem c_X6_fits {u : St} {l1 : Int32} {r : Int32 × St} (hf : f_X6_fits u l1 = some r) : CtI shX yX6_fits cX6_fits 2 (some .int) rm_X6_fits [.inr 0, .inl l1] u r.1 r.2 := ct_I (by decide +kernel) (Nat.le_of_ble_eq_true rfl) (fun K E h hr => w_X6_fits_0 h hr _ _ hf)
set_option maxRecDepth 100000 in
set_option maxHeartbeats 4000000 in
theorem w_J7_fill_23_5 {K : Kx} {E : Ex} (h : Ok shX K E RJ7 cJ7_fill_53178 4 rm_J7_fill_23) {r : St} (hr : RetV shX K E cJ7_fill_53178 4 r) : ∀ (n : Nat) (u : St) (l1 l2 l3 : Int32), f_J7_fill_23_5 n u l1 l2 l3 = some r → Vd shX K E 4 5 [some (.inr 23), some (.inl l1), some (.inl l2), some (.inl l3)] [] u := by
  intro n
  induction n with
  | zero => intro u l1 l2 l3 hf; cases hf
  | succ n ih =>
    intro u l1 l2 l3 hf
    refine r_iload_n (pc := 5) h dJ7_fill_53178_5 rfl ?_
    refine r_iload_n (pc := 6) h dJ7_fill_53178_6 rfl ?_
    refine p_ite hf (fun hc1 hf => ?_) (fun hc1 hf => ?_)
    · refine r_icmp_ge (pc := 7) (tgt := 20) h dJ7_fill_53178_7 (by decide) (fun _ => ?_) (fun q => absurd hc1 q)
      have hf := Option.some.inj hf
      subst hf
      exact hr 20 _ dJ7_fill_53178_20
    · refine r_icmp_ge (pc := 7) (tgt := 20) h dJ7_fill_53178_7 (by decide) (fun q => absurd q hc1) (fun _ => ?_)
      refine r_aload_n (pc := 10) h dJ7_fill_53178_10 rfl ?_
      refine r_iload_n (pc := 11) h dJ7_fill_53178_11 rfl ?_
      refine r_iload_n (pc := 12) h dJ7_fill_53178_12 rfl ?_
      refine p_g hf (fun hi2 hf => ?_)
      refine r_iast (pc := 13) (k := 23) h hshX_23 hi2 dJ7_fill_53178_13 ?_
      refine r_iinc (pc := 14) (v := (l2 + 1)) (L' := [some (.inr 23), some (.inl l1), some (.inl (l2 + 1)), some (.inl l3)]) h dJ7_fill_53178_14 rfl rfl (by decide) rfl ?_
      refine r_goto (pc := 17) (tgt := 5) h dJ7_fill_53178_17 (by decide) ?_
      exact ih _ _ _ _ hf
set_option maxRecDepth 100000 in
set_option maxHeartbeats 4000000 in
theorem w_J7_fill_23_0 {K : Kx} {E : Ex} (h : Ok shX K E RJ7 cJ7_fill_53178 4 rm_J7_fill_23) {r : St} (hr : RetV shX K E cJ7_fill_53178 4 r) (u : St) (l1 : Int32) (hf : f_J7_fill_23 u l1 = some r) : Vd shX K E 4 0 [some (.inr 23), some (.inl l1), none, none] [] u := by
  refine r_iconst (pc := 0) (v := 0) h dJ7_fill_53178_0 (by decide) ?_
  refine r_istore_n (pc := 1) (L' := [some (.inr 23), some (.inl l1), some (.inl 0), none]) h dJ7_fill_53178_1 (by decide) rfl ?_
  refine r_aload_n (pc := 2) h dJ7_fill_53178_2 rfl ?_
  refine r_alen (pc := 3) (k := 23) (v := 144) h hshX_23 (by decide) dJ7_fill_53178_3 ?_
  refine r_istore_n (pc := 4) (L' := [some (.inr 23), some (.inl l1), some (.inl 0), some (.inl 144)]) h dJ7_fill_53178_4 (by decide) rfl ?_
  exact w_J7_fill_23_5 h hr FU _ _ _ _ hf
theorem c_J7_fill_23 {u : St} {l1 : Int32} {r : St} (hf : f_J7_fill_23 u l1 = some r) : CtV shX yJ7_fill_53178 cJ7_fill_53178 4 none rm_J7_fill_23 [.inr 23, .inl l1] u r := ct_V (by decide +kernel) (Nat.le_of_ble_eq_true rfl) (fun K E h hr => w_J7_fill_23_0 h hr _ _ hf)
set_option maxRecDepth 100000 in
set_option maxHeartbeats 4000000 in
theorem w_J7_fill_24_5 {K : Kx} {E : Ex} (h : Ok shX K E RJ7 cJ7_fill_53178 4 rm_J7_fill_24) {r : St} (hr : RetV shX K E cJ7_fill_53178 4 r) : ∀ (n : Nat) (u : St) (l1 l2 l3 : Int32), f_J7_fill_24_5 n u l1 l2 l3 = some r → Vd shX K E 4 5 [some (.inr 24), some (.inl l1), some (.inl l2), some (.inl l3)] [] u := by
  intro n
  induction n with
  | zero => intro u l1 l2 l3 hf; cases hf
  | succ n ih =>
    intro u l1 l2 l3 hf
    refine r_iload_n (pc := 5) h dJ7_fill_53178_5 rfl ?_
    refine r_iload_n (pc := 6) h dJ7_fill_53178_6 rfl ?_
    refine p_ite hf (fun hc1 hf => ?_) (fun hc1 hf => ?_)
    · refine r_icmp_ge (pc := 7) (tgt := 20) h dJ7_fill_53178_7 (by decide) (fun _ => ?_) (fun q => absurd hc1 q)
      have hf := Option.some.inj hf
      subst hf
      exact hr 20 _ dJ7_fill_53178_20
    · refine r_icmp_ge (pc := 7) (tgt := 20) h dJ7_fill_53178_7 (by decide) (fun q => absurd q hc1) (fun _ => ?_)
      refine r_aload_n (pc := 10) h dJ7_fill_53178_10 rfl ?_
      refine r_iload_n (pc := 11) h dJ7_fill_53178_11 rfl ?_
      refine r_iload_n (pc := 12) h dJ7_fill_53178_12 rfl ?_
      refine p_g hf (fun hi2 hf => ?_)
      refine r_iast (pc := 13) (k := 24) h hshX_24 hi2 dJ7_fill_53178_13 ?_
      refine r_iinc (pc := 14) (v := (l2 + 1)) (L' := [some (.inr 24), some (.inl l1), some (.inl (l2 + 1)), some (.inl l3)]) h dJ7_fill_53178_14 rfl rfl (by decide) rfl ?_
      refine r_goto (pc := 17) (tgt := 5) h dJ7_fill_53178_17 (by decide) ?_
      exact ih _ _ _ _ hf
set_option maxRecDepth 100000 in
set_option maxHeartbeats 4000000 in
theorem w_J7_fill_24_0 {K : Kx} {E : Ex} (h : Ok shX K E RJ7 cJ7_fill_53178 4 rm_J7_fill_24) {r : St} (hr : RetV shX K E cJ7_fill_53178 4 r) (u : St) (l1 : Int32) (hf : f_J7_fill_24 u l1 = some r) : Vd shX K E 4 0 [some (.inr 24), some (.inl l1), none, none] [] u := by
  refine r_iconst (pc := 0) (v := 0) h dJ7_fill_53178_0 (by decide) ?_
  refine r_istore_n (pc := 1) (L' := [some (.inr 24), some (.inl l1), some (.inl 0), none]) h dJ7_fill_53178_1 (by decide) rfl ?_
  refine r_aload_n (pc := 2) h dJ7_fill_53178_2 rfl ?_
  refine r_alen (pc := 3) (k := 24) (v := 12) h hshX_24 (by decide) dJ7_fill_53178_3 ?_
  refine r_istore_n (pc := 4) (L' := [some (.inr 24), some (.inl l1), some (.inl 0), some (.inl 12)]) h dJ7_fill_53178_4 (by decide) rfl ?_
  exact w_J7_fill_24_5 h hr FU _ _ _ _ hf
theorem c_J7_fill_24 {u : St} {l1 : Int32} {r : St} (hf : f_J7_fill_24 u l1 = some r) : CtV shX yJ7_fill_53178 cJ7_fill_53178 4 none rm_J7_fill_24 [.inr 24, .inl l1] u r := ct_V (by decide +kernel) (Nat.le_of_ble_eq_true rfl) (fun K E h hr => w_J7_fill_24_0 h hr _ _ hf)
set_option maxRecDepth 100000 in
set_option maxHeartbeats 4000000 in
theorem w_J7_fill_25_5 {K : Kx} {E : Ex} (h : Ok shX K E RJ7 cJ7_fill_53178 4 rm_J7_fill_25) {r : St} (hr : RetV shX K E cJ7_fill_53178 4 r) : ∀ (n : Nat) (u : St) (l1 l2 l3 : Int32), f_J7_fill_25_5 n u l1 l2 l3 = some r → Vd shX K E 4 5 [some (.inr 25), some (.inl l1), some (.inl l2), some (.inl l3)] [] u := by
  intro n
  induction n with
  | zero => intro u l1 l2 l3 hf; cases hf
  | succ n ih =>
    intro u l1 l2 l3 hf
    refine r_iload_n (pc := 5) h dJ7_fill_53178_5 rfl ?_
    refine r_iload_n (pc := 6) h dJ7_fill_53178_6 rfl ?_
    refine p_ite hf (fun hc1 hf => ?_) (fun hc1 hf => ?_)
    · refine r_icmp_ge (pc := 7) (tgt := 20) h dJ7_fill_53178_7 (by decide) (fun _ => ?_) (fun q => absurd hc1 q)
      have hf := Option.some.inj hf
      subst hf
      exact hr 20 _ dJ7_fill_53178_20
    · refine r_icmp_ge (pc := 7) (tgt := 20) h dJ7_fill_53178_7 (by decide) (fun q => absurd q hc1) (fun _ => ?_)
      refine r_aload_n (pc := 10) h dJ7_fill_53178_10 rfl ?_
      refine r_iload_n (pc := 11) h dJ7_fill_53178_11 rfl ?_
      refine r_iload_n (pc := 12) h dJ7_fill_53178_12 rfl ?_
      refine p_g hf (fun hi2 hf => ?_)
      refine r_iast (pc := 13) (k := 25) h hshX_25 hi2 dJ7_fill_53178_13 ?_
      refine r_iinc (pc := 14) (v := (l2 + 1)) (L' := [some (.inr 25), some (.inl l1), some (.inl (l2 + 1)), some (.inl l3)]) h dJ7_fill_53178_14 rfl rfl (by decide) rfl ?_
      refine r_goto (pc := 17) (tgt := 5) h dJ7_fill_53178_17 (by decide) ?_
      exact ih _ _ _ _ hf
set_option maxRecDepth 100000 in
set_option maxHeartbeats 4000000 in
theorem w_J7_fill_25_0 {K : Kx} {E : Ex} (h : Ok shX K E RJ7 cJ7_fill_53178 4 rm_J7_fill_25) {r : St} (hr : RetV shX K E cJ7_fill_53178 4 r) (u : St) (l1 : Int32) (hf : f_J7_fill_25 u l1 = some r) : Vd shX K E 4 0 [some (.inr 25), some (.inl l1), none, none] [] u := by
  refine r_iconst (pc := 0) (v := 0) h dJ7_fill_53178_0 (by decide) ?_
  refine r_istore_n (pc := 1) (L' := [some (.inr 25), some (.inl l1), some (.inl 0), none]) h dJ7_fill_53178_1 (by decide) rfl ?_
  refine r_aload_n (pc := 2) h dJ7_fill_53178_2 rfl ?_
  refine r_alen (pc := 3) (k := 25) (v := 12) h hshX_25 (by decide) dJ7_fill_53178_3 ?_
  refine r_istore_n (pc := 4) (L' := [some (.inr 25), some (.inl l1), some (.inl 0), some (.inl 12)]) h dJ7_fill_53178_4 (by decide) rfl ?_
  exact w_J7_fill_25_5 h hr FU _ _ _ _ hf
theorem c_J7_fill_25 {u : St} {l1 : Int32} {r : St} (hf : f_J7_fill_25 u l1 = some r) : CtV shX yJ7_fill_53178 cJ7_fill_53178 4 none rm_J7_fill_25 [.inr 25, .inl l1] u r := ct_V (by decide +kernel) (Nat.le_of_ble_eq_true rfl) (fun K E h hr => w_J7_fill_25_0 h hr _ _ hf)
set_option maxRecDepth 100000 in
set_option maxHeartbeats 4000000 in
theorem w_X3_enqueue_0 {K : Kx} {E : Ex} (h : Ok shX K E RX3 cX3_enqueue 3 rm_X3_enqueue) {r : St} (hr : RetV shX K E cX3_enqueue 3 r) (u : St) (l1 l2 : Int32) (hf : f_X3_enqueue u l1 l2 = some r) : Vd shX K E 3 0 [some (.inr 21), some (.inl l1), some (.inl l2)] [] u := by
  refine r_iload_n (pc := 0) h dX3_enqueue_0 rfl ?_
  refine r_iconst (pc := 1) (v := 0) h dX3_enqueue_1 (by decide) ?_
  refine r_bipush (pc := 2) (v := 11) h dX3_enqueue_2 (by decide) ?_
  refine p_b hf (fun q1 e2 hf => ?_)
  refine r_cNi (pc := 4) (st := []) h [.inl l1, .inl 0, .inl 11] cs_X6_isWithin nm_X3_72 (c_X6_isWithin e2) ⟨rfl, rfl, Nat.le_of_ble_eq_true rfl, Nat.le_of_ble_eq_true rfl⟩ (Nat.le_of_ble_eq_true rfl) dX3_enqueue_4 ?_
  refine p_ite hf (fun hc3 hf => ?_) (fun hc3 hf => ?_)
  · refine r_if_eq (pc := 7) (tgt := 55) h dX3_enqueue_7 (by decide) (fun _ => ?_) (fun q => absurd hc3 q)
    have hf := Option.some.inj hf
    subst hf
    exact hr 55 _ dX3_enqueue_55
  · refine r_if_eq (pc := 7) (tgt := 55) h dX3_enqueue_7 (by decide) (fun q => absurd q hc3) (fun _ => ?_)
    refine r_aload_n (pc := 10) h dX3_enqueue_10 rfl ?_
    refine gf_X3_21 (pc := 11) h dX3_enqueue_11 ?_
    refine r_iload_n (pc := 14) h dX3_enqueue_14 rfl ?_
    refine p_g hf (fun hi4 hf => ?_)
    refine r_iald (pc := 15) (k := 25) (v := (u 25 l1.toNatClampNeg)) h hshX_25 hi4 rfl dX3_enqueue_15 ?_
    refine p_ite hf (fun hc5 hf => ?_) (fun hc5 hf => ?_)
    · refine r_if_ge (pc := 16) (tgt := 55) h dX3_enqueue_16 (by decide) (fun _ => ?_) (fun q => absurd hc5 q)
      have hf := Option.some.inj hf
      subst hf
      exact hr 55 _ dX3_enqueue_55
    · refine r_if_ge (pc := 16) (tgt := 55) h dX3_enqueue_16 (by decide) (fun q => absurd q hc5) (fun _ => ?_)
      refine r_aload_n (pc := 19) h dX3_enqueue_19 rfl ?_
      refine gf_X3_53 (pc := 20) (v := (u 21 6)) h rfl dX3_enqueue_20 ?_
      refine r_bipush (pc := 23) (v := 12) h dX3_enqueue_23 (by decide) ?_
      refine p_ite hf (fun hc6 hf => ?_) (fun hc6 hf => ?_)
      · refine r_icmp_ge (pc := 25) (tgt := 55) h dX3_enqueue_25 (by decide) (fun _ => ?_) (fun q => absurd hc6 q)
        have hf := Option.some.inj hf
        subst hf
        exact hr 55 _ dX3_enqueue_55
      · refine r_icmp_ge (pc := 25) (tgt := 55) h dX3_enqueue_25 (by decide) (fun q => absurd q hc6) (fun _ => ?_)
        refine r_aload_n (pc := 28) h dX3_enqueue_28 rfl ?_
        refine gf_X3_21 (pc := 29) h dX3_enqueue_29 ?_
        refine r_iload_n (pc := 32) h dX3_enqueue_32 rfl ?_
        refine r_iload_n (pc := 33) h dX3_enqueue_33 rfl ?_
        refine r_iast (pc := 34) (k := 25) h hshX_25 hi4 dX3_enqueue_34 ?_
        refine r_aload_n (pc := 35) h dX3_enqueue_35 rfl ?_
        refine gf_X3_24 (pc := 36) h dX3_enqueue_36 ?_
        refine r_aload_n (pc := 39) h dX3_enqueue_39 rfl ?_
        refine gf_X3_53 (pc := 40) (v := (u 21 6)) h rfl dX3_enqueue_40 ?_
        refine r_iload_n (pc := 43) h dX3_enqueue_43 rfl ?_
        refine p_g hf (fun hi7 hf => ?_)
        refine r_iast (pc := 44) (k := 26) h hshX_26 hi7 dX3_enqueue_44 ?_
        refine r_aload_n (pc := 45) h dX3_enqueue_45 rfl ?_
        refine r_dup (pc := 46) h dX3_enqueue_46 ?_
        refine gf_X3_53 (pc := 47) (v := (u 21 6)) h rfl dX3_enqueue_47 ?_
        refine r_iconst (pc := 50) (v := 1) h dX3_enqueue_50 (by decide) ?_
        refine r_iadd (pc := 51) h dX3_enqueue_51 ?_
        refine pf_X3_53 (pc := 52) h dX3_enqueue_52 ?_
        have hf := Option.some.inj hf
        subst hf
        exact hr 55 _ dX3_enqueue_55
theorem c_X3_enqueue {u : St} {l1 l2 : Int32} {r : St} (hf : f_X3_enqueue u l1 l2 = some r) : CtV shX yX3_enqueue cX3_enqueue 3 none rm_X3_enqueue [.inr 21, .inl l1, .inl l2] u r := ct_V (by decide +kernel) (Nat.le_of_ble_eq_true rfl) (fun K E h hr => w_X3_enqueue_0 h hr _ _ _ hf)
set_option maxRecDepth 100000 in
set_option maxHeartbeats 4000000 in
theorem w_X4_mayGo_0 {K : Kx} {E : Ex} (h : Ok shX K E RX4 cX4_mayGo 3 rm_X4_mayGo) {r : Int32} {u : St} (hr : RetZ shX K E cX4_mayGo 3 r u) (l1 l2 : Int32) (hf : f_X4_mayGo u l1 l2 = some r) : Vd shX K E 3 0 [some (.inr 15), some (.inl l1), some (.inl l2)] [] u := by
  refine r_aload_n (pc := 0) h dX4_mayGo_0 rfl ?_
  refine r_iload_n (pc := 1) h dX4_mayGo_1 rfl ?_
  refine p_b hf (fun q1 e2 hf => ?_)
  refine r_cVi (pc := 2) (k := 15) (st := []) h [.inl l1] cv_X4_has wm_X4_37 (c_X4_has e2) ⟨rfl, rfl, Nat.le_of_ble_eq_true rfl, Nat.le_of_ble_eq_true rfl⟩ hshX_15 rfl rfl (Nat.le_of_ble_eq_true rfl) dX4_mayGo_2 ?_
  refine p_ite hf (fun hc3 hf => ?_) (fun hc3 hf => ?_)
  · refine r_if_eq (pc := 5) (tgt := 58) h dX4_mayGo_5 (by decide) (fun _ => ?_) (fun q => absurd hc3 q)
    refine r_iconst (pc := 58) (v := 0) h dX4_mayGo_58 (by decide) ?_
    have hf := Option.some.inj hf
    subst hf
    exact hr 59 _ dX4_mayGo_59 z_0
  · refine r_if_eq (pc := 5) (tgt := 58) h dX4_mayGo_5 (by decide) (fun q => absurd q hc3) (fun _ => ?_)
    refine r_aload_n (pc := 8) h dX4_mayGo_8 rfl ?_
    refine r_iload_n (pc := 9) h dX4_mayGo_9 rfl ?_
    refine p_b hf (fun q4 e5 hf => ?_)
    refine r_cVi (pc := 10) (k := 15) (st := []) h [.inl l2] cv_X4_has wm_X4_37 (c_X4_has e5) ⟨rfl, rfl, Nat.le_of_ble_eq_true rfl, Nat.le_of_ble_eq_true rfl⟩ hshX_15 rfl rfl (Nat.le_of_ble_eq_true rfl) dX4_mayGo_10 ?_
    refine p_ite hf (fun hc6 hf => ?_) (fun hc6 hf => ?_)
    · refine r_if_eq (pc := 13) (tgt := 58) h dX4_mayGo_13 (by decide) (fun _ => ?_) (fun q => absurd hc6 q)
      refine r_iconst (pc := 58) (v := 0) h dX4_mayGo_58 (by decide) ?_
      have hf := Option.some.inj hf
      subst hf
      exact hr 59 _ dX4_mayGo_59 z_0
    · refine r_if_eq (pc := 13) (tgt := 58) h dX4_mayGo_13 (by decide) (fun q => absurd q hc6) (fun _ => ?_)
      refine r_aload_n (pc := 16) h dX4_mayGo_16 rfl ?_
      refine gf_X4_15 (pc := 17) h dX4_mayGo_17 ?_
      refine r_iload_n (pc := 20) h dX4_mayGo_20 rfl ?_
      refine p_g hf (fun hi7 hf => ?_)
      refine r_iald (pc := 21) (k := 17) (v := (u 17 l2.toNatClampNeg)) h hshX_17 hi7 rfl dX4_mayGo_21 ?_
      refine r_aload_n (pc := 22) h dX4_mayGo_22 rfl ?_
      refine gf_X4_18 (pc := 23) h dX4_mayGo_23 ?_
      refine r_iload_n (pc := 26) h dX4_mayGo_26 rfl ?_
      refine p_g hf (fun hi8 hf => ?_)
      refine r_iald (pc := 27) (k := 18) (v := (u 18 l1.toNatClampNeg)) h hshX_18 hi8 rfl dX4_mayGo_27 ?_
      refine r_aload_n (pc := 28) h dX4_mayGo_28 rfl ?_
      refine r_aload_n (pc := 29) h dX4_mayGo_29 rfl ?_
      refine gf_X4_9 (pc := 30) h dX4_mayGo_30 ?_
      refine r_iload_n (pc := 33) h dX4_mayGo_33 rfl ?_
      refine r_iald (pc := 34) (k := 16) (v := (u 16 l1.toNatClampNeg)) h hshX_16 hi8 rfl dX4_mayGo_34 ?_
      refine p_b hf (fun q9 e10 hf => ?_)
      refine r_cNi (pc := 35) (st := [.inr 15, .inl (u 18 l1.toNatClampNeg), .inl (u 17 l2.toNatClampNeg)]) h [.inl (u 16 l1.toNatClampNeg)] cs_X6_doorIn nm_X4_55 (c_X6_doorIn e10) ⟨rfl, rfl, Nat.le_of_ble_eq_true rfl, Nat.le_of_ble_eq_true rfl⟩ (Nat.le_of_ble_eq_true rfl) dX4_mayGo_35 ?_
      refine r_aload_n (pc := 38) h dX4_mayGo_38 rfl ?_
      refine gf_X4_9 (pc := 39) h dX4_mayGo_39 ?_
      refine r_iload_n (pc := 42) h dX4_mayGo_42 rfl ?_
      refine r_iald (pc := 43) (k := 16) (v := (u 16 l2.toNatClampNeg)) h hshX_16 hi7 rfl dX4_mayGo_43 ?_
      refine p_b hf (fun q11 e12 hf => ?_)
      refine r_cNi (pc := 44) (st := [.inl q9, .inr 15, .inl (u 18 l1.toNatClampNeg), .inl (u 17 l2.toNatClampNeg)]) h [.inl (u 16 l2.toNatClampNeg)] cs_X6_doorIn nm_X4_55 (c_X6_doorIn e12) ⟨rfl, rfl, Nat.le_of_ble_eq_true rfl, Nat.le_of_ble_eq_true rfl⟩ (Nat.le_of_ble_eq_true rfl) dX4_mayGo_44 ?_
      refine p_b hf (fun q13 e14 hf => ?_)
      refine r_cVi (pc := 47) (k := 15) (st := [.inl (u 18 l1.toNatClampNeg), .inl (u 17 l2.toNatClampNeg)]) h [.inl q9, .inl q11] cv_X4_wayBetween wm_X4_48 (c_X4_wayBetween e14) ⟨rfl, rfl, Nat.le_of_ble_eq_true rfl, Nat.le_of_ble_eq_true rfl⟩ hshX_15 rfl rfl (Nat.le_of_ble_eq_true rfl) dX4_mayGo_47 ?_
      refine r_iadd (pc := 50) h dX4_mayGo_50 ?_
      refine p_ite hf (fun hc15 hf => ?_) (fun hc15 hf => ?_)
      · refine r_icmp_lt (pc := 51) (tgt := 58) h dX4_mayGo_51 (by decide) (fun _ => ?_) (fun q => absurd hc15 q)
        refine r_iconst (pc := 58) (v := 0) h dX4_mayGo_58 (by decide) ?_
        have hf := Option.some.inj hf
        subst hf
        exact hr 59 _ dX4_mayGo_59 z_0
      · refine r_icmp_lt (pc := 51) (tgt := 58) h dX4_mayGo_51 (by decide) (fun q => absurd q hc15) (fun _ => ?_)
        refine r_iconst (pc := 54) (v := 1) h dX4_mayGo_54 (by decide) ?_
        refine r_goto (pc := 55) (tgt := 59) h dX4_mayGo_55 (by decide) ?_
        have hf := Option.some.inj hf
        subst hf
        exact hr 59 _ dX4_mayGo_59 z_1
theorem c_X4_mayGo {u : St} {l1 l2 : Int32} {r : Int32} (hf : f_X4_mayGo u l1 l2 = some r) : CtI shX yX4_mayGo cX4_mayGo 3 (some .boolean) rm_X4_mayGo [.inr 15, .inl l1, .inl l2] u r u := ct_Z (by decide +kernel) (Nat.le_of_ble_eq_true rfl) (fun K E h hr => w_X4_mayGo_0 h hr _ _ hf)
set_option maxRecDepth 100000 in
set_option maxHeartbeats 4000000 in
theorem w_X3_goingBetween_0 {K : Kx} {E : Ex} (h : Ok shX K E RX3 cX3_goingBetween 3 rm_X3_goingBetween) {r : Int32} {u : St} (hr : RetI shX K E cX3_goingBetween 3 r u) (l1 l2 : Int32) (hf : f_X3_goingBetween u l1 l2 = some r) : Vd shX K E 3 0 [some (.inr 21), some (.inl l1), some (.inl l2)] [] u := by
  refine r_iload_n (pc := 0) h dX3_goingBetween_0 rfl ?_
  refine r_iconst (pc := 1) (v := 0) h dX3_goingBetween_1 (by decide) ?_
  refine r_bipush (pc := 2) (v := 11) h dX3_goingBetween_2 (by decide) ?_
  refine p_b hf (fun q1 e2 hf => ?_)
  refine r_cNi (pc := 4) (st := []) h [.inl l1, .inl 0, .inl 11] cs_X6_isWithin nm_X3_72 (c_X6_isWithin e2) ⟨rfl, rfl, Nat.le_of_ble_eq_true rfl, Nat.le_of_ble_eq_true rfl⟩ (Nat.le_of_ble_eq_true rfl) dX3_goingBetween_4 ?_
  refine p_ite hf (fun hc3 hf => ?_) (fun hc3 hf => ?_)
  · refine r_if_eq (pc := 7) (tgt := 34) h dX3_goingBetween_7 (by decide) (fun _ => ?_) (fun q => absurd hc3 q)
    refine r_iconst (pc := 34) (v := 0) h dX3_goingBetween_34 (by decide) ?_
    have hf := Option.some.inj hf
    subst hf
    exact hr 35 _ dX3_goingBetween_35
  · refine r_if_eq (pc := 7) (tgt := 34) h dX3_goingBetween_7 (by decide) (fun q => absurd q hc3) (fun _ => ?_)
    refine r_iload_n (pc := 10) h dX3_goingBetween_10 rfl ?_
    refine r_iconst (pc := 11) (v := 0) h dX3_goingBetween_11 (by decide) ?_
    refine r_bipush (pc := 12) (v := 11) h dX3_goingBetween_12 (by decide) ?_
    refine p_b hf (fun q4 e5 hf => ?_)
    refine r_cNi (pc := 14) (st := []) h [.inl l2, .inl 0, .inl 11] cs_X6_isWithin nm_X3_72 (c_X6_isWithin e5) ⟨rfl, rfl, Nat.le_of_ble_eq_true rfl, Nat.le_of_ble_eq_true rfl⟩ (Nat.le_of_ble_eq_true rfl) dX3_goingBetween_14 ?_
    refine p_ite hf (fun hc6 hf => ?_) (fun hc6 hf => ?_)
    · refine r_if_eq (pc := 17) (tgt := 34) h dX3_goingBetween_17 (by decide) (fun _ => ?_) (fun q => absurd hc6 q)
      refine r_iconst (pc := 34) (v := 0) h dX3_goingBetween_34 (by decide) ?_
      have hf := Option.some.inj hf
      subst hf
      exact hr 35 _ dX3_goingBetween_35
    · refine r_if_eq (pc := 17) (tgt := 34) h dX3_goingBetween_17 (by decide) (fun q => absurd q hc6) (fun _ => ?_)
      refine r_aload_n (pc := 20) h dX3_goingBetween_20 rfl ?_
      refine gf_X3_15 (pc := 21) h dX3_goingBetween_21 ?_
      refine r_iload_n (pc := 24) h dX3_goingBetween_24 rfl ?_
      refine r_bipush (pc := 25) (v := 12) h dX3_goingBetween_25 (by decide) ?_
      refine r_imul (pc := 27) h dX3_goingBetween_27 ?_
      refine r_iload_n (pc := 28) h dX3_goingBetween_28 rfl ?_
      refine r_iadd (pc := 29) h dX3_goingBetween_29 ?_
      refine p_g hf (fun hi7 hf => ?_)
      refine r_iald (pc := 30) (k := 23) (v := (u 23 ((l1 * 12) + l2).toNatClampNeg)) h hshX_23 hi7 rfl dX3_goingBetween_30 ?_
      refine r_goto (pc := 31) (tgt := 35) h dX3_goingBetween_31 (by decide) ?_
      have hf := Option.some.inj hf
      subst hf
      exact hr 35 _ dX3_goingBetween_35
theorem c_X3_goingBetween {u : St} {l1 l2 : Int32} {r : Int32} (hf : f_X3_goingBetween u l1 l2 = some r) : CtI shX yX3_goingBetween cX3_goingBetween 3 (some .int) rm_X3_goingBetween [.inr 21, .inl l1, .inl l2] u r u := ct_I (by decide +kernel) (Nat.le_of_ble_eq_true rfl) (fun K E h hr => w_X3_goingBetween_0 h hr _ _ hf)
set_option maxRecDepth 100000 in
set_option maxHeartbeats 4000000 in
theorem w_X3_enqueueThoseGoingTo_2 {K : Kx} {E : Ex} (h : Ok shX K E RX3 cX3_enqueueThoseGoingTo 3 rm_X3_enqueueThoseGoingTo) {r : St} (hr : RetV shX K E cX3_enqueueThoseGoingTo 3 r) : ∀ (n : Nat) (u : St) (l1 l2 : Int32), f_X3_enqueueThoseGoingTo_2 n u l1 l2 = some r → Vd shX K E 3 2 [some (.inr 21), some (.inl l1), some (.inl l2)] [] u := by
  intro n
  induction n with
  | zero => intro u l1 l2 hf; cases hf
  | succ n ih =>
    intro u l1 l2 hf
    refine r_iload_n (pc := 2) h dX3_enqueueThoseGoingTo_2 rfl ?_
    refine r_bipush (pc := 3) (v := 12) h dX3_enqueueThoseGoingTo_3 (by decide) ?_
    refine p_ite hf (fun hc1 hf => ?_) (fun hc1 hf => ?_)
    · refine r_icmp_ge (pc := 5) (tgt := 29) h dX3_enqueueThoseGoingTo_5 (by decide) (fun _ => ?_) (fun q => absurd hc1 q)
      have hf := Option.some.inj hf
      subst hf
      exact hr 29 _ dX3_enqueueThoseGoingTo_29
    · refine r_icmp_ge (pc := 5) (tgt := 29) h dX3_enqueueThoseGoingTo_5 (by decide) (fun q => absurd q hc1) (fun _ => ?_)
      refine r_aload_n (pc := 8) h dX3_enqueueThoseGoingTo_8 rfl ?_
      refine r_iload_n (pc := 9) h dX3_enqueueThoseGoingTo_9 rfl ?_
      refine r_iload_n (pc := 10) h dX3_enqueueThoseGoingTo_10 rfl ?_
      refine p_b hf (fun q2 e3 hf => ?_)
      refine r_cVi (pc := 11) (k := 21) (st := []) h [.inl l2, .inl l1] cv_X3_goingBetween wm_X3_68 (c_X3_goingBetween e3) ⟨rfl, rfl, Nat.le_of_ble_eq_true rfl, Nat.le_of_ble_eq_true rfl⟩ hshX_21 rfl rfl (Nat.le_of_ble_eq_true rfl) dX3_enqueueThoseGoingTo_11 ?_
      refine p_ite hf (fun hc4 hf => ?_) (fun hc4 hf => ?_)
      · refine r_if_le (pc := 14) (tgt := 23) h dX3_enqueueThoseGoingTo_14 (by decide) (fun _ => ?_) (fun q => absurd hc4 q)
        refine r_iinc (pc := 23) (v := (l2 + 1)) (L' := [some (.inr 21), some (.inl l1), some (.inl (l2 + 1))]) h dX3_enqueueThoseGoingTo_23 rfl rfl (by decide) rfl ?_
        refine r_goto (pc := 26) (tgt := 2) h dX3_enqueueThoseGoingTo_26 (by decide) ?_
        exact ih _ _ _ hf
      · refine r_if_le (pc := 14) (tgt := 23) h dX3_enqueueThoseGoingTo_14 (by decide) (fun q => absurd q hc4) (fun _ => ?_)
        refine r_aload_n (pc := 17) h dX3_enqueueThoseGoingTo_17 rfl ?_
        refine r_iload_n (pc := 18) h dX3_enqueueThoseGoingTo_18 rfl ?_
        refine r_iload_n (pc := 19) h dX3_enqueueThoseGoingTo_19 rfl ?_
        refine p_b hf (fun q5 e6 hf => ?_)
        refine r_cVv (pc := 20) (k := 21) (st := []) h [.inl l2, .inl l1] cv_X3_enqueue wm_X3_57 (c_X3_enqueue e6) ⟨rfl, rfl, Nat.le_of_ble_eq_true rfl, Nat.le_of_ble_eq_true rfl⟩ hshX_21 rfl rfl (Nat.le_of_ble_eq_true rfl) dX3_enqueueThoseGoingTo_20 ?_
        refine r_iinc (pc := 23) (v := (l2 + 1)) (L' := [some (.inr 21), some (.inl l1), some (.inl (l2 + 1))]) h dX3_enqueueThoseGoingTo_23 rfl rfl (by decide) rfl ?_
        refine r_goto (pc := 26) (tgt := 2) h dX3_enqueueThoseGoingTo_26 (by decide) ?_
        exact ih _ _ _ hf
set_option maxRecDepth 100000 in
set_option maxHeartbeats 4000000 in
theorem w_X3_enqueueThoseGoingTo_0 {K : Kx} {E : Ex} (h : Ok shX K E RX3 cX3_enqueueThoseGoingTo 3 rm_X3_enqueueThoseGoingTo) {r : St} (hr : RetV shX K E cX3_enqueueThoseGoingTo 3 r) (u : St) (l1 : Int32) (hf : f_X3_enqueueThoseGoingTo u l1 = some r) : Vd shX K E 3 0 [some (.inr 21), some (.inl l1), none] [] u := by
  refine r_iconst (pc := 0) (v := 0) h dX3_enqueueThoseGoingTo_0 (by decide) ?_
  refine r_istore_n (pc := 1) (L' := [some (.inr 21), some (.inl l1), some (.inl 0)]) h dX3_enqueueThoseGoingTo_1 (by decide) rfl ?_
  exact w_X3_enqueueThoseGoingTo_2 h hr FU _ _ _ hf
theorem c_X3_enqueueThoseGoingTo {u : St} {l1 : Int32} {r : St} (hf : f_X3_enqueueThoseGoingTo u l1 = some r) : CtV shX yX3_enqueueThoseGoingTo cX3_enqueueThoseGoingTo 3 none rm_X3_enqueueThoseGoingTo [.inr 21, .inl l1] u r := ct_V (by decide +kernel) (Nat.le_of_ble_eq_true rfl) (fun K E h hr => w_X3_enqueueThoseGoingTo_0 h hr _ _ hf)
set_option maxRecDepth 100000 in
set_option maxHeartbeats 4000000 in
theorem w_X3_search_53 {K : Kx} {E : Ex} (h : Ok shX K E RX3 cX3_search 5 rm_X3_search) {r : Int32 × St} (hr : RetI shX K E cX3_search 5 r.1 r.2) {k29 : St → Int32 → Option (Int32 × St)} (hk29 : ∀ (u : St) (l2 : Int32), k29 u l2 = some r → Vd shX K E 5 29 [some (.inr 21), none, some (.inl l2), none, none] [] u) : ∀ (n : Nat) (u : St) (l2 l3 l4 : Int32), f_X3_search_53 k29 n u l2 l3 l4 = some r → Vd shX K E 5 53 [some (.inr 21), none, some (.inl l2), some (.inl l3), some (.inl l4)] [] u := by
  intro n
  induction n with
  | zero => intro u l2 l3 l4 hf; cases hf
  | succ n ih =>
    intro u l2 l3 l4 hf
    refine r_iload (pc := 53) h dX3_search_53 rfl ?_
    refine r_bipush (pc := 55) (v := 12) h dX3_search_55 (by decide) ?_
    refine p_ite hf (fun hc1 hf => ?_) (fun hc1 hf => ?_)
    · refine r_icmp_ge (pc := 57) (tgt := 116) h dX3_search_57 (by decide) (fun _ => ?_) (fun q => absurd hc1 q)
      refine r_iinc (pc := 116) (v := (l2 + 1)) (L' := [some (.inr 21), none, some (.inl (l2 + 1)), some (.inl l3), some (.inl l4)]) h dX3_search_116 rfl rfl (by decide) rfl ?_
      refine r_goto (pc := 119) (tgt := 29) h dX3_search_119 (by decide) ?_
      refine r_le [some (.inr 21), none, some (.inl (l2 + 1)), none, none] ⟨rfl, ⟨rfl, trivial⟩⟩ ?_
      exact hk29 _ _ hf
    · refine r_icmp_ge (pc := 57) (tgt := 116) h dX3_search_57 (by decide) (fun q => absurd q hc1) (fun _ => ?_)
      refine r_aload_n (pc := 60) h dX3_search_60 rfl ?_
      refine gf_X3_18 (pc := 61) h dX3_search_61 ?_
      refine r_iload (pc := 64) h dX3_search_64 rfl ?_
      refine p_g hf (fun hi2 hf => ?_)
      refine r_iald (pc := 66) (k := 24) (v := (u 24 l4.toNatClampNeg)) h hshX_24 hi2 rfl dX3_search_66 ?_
      refine p_ite hf (fun hc3 hf => ?_) (fun hc3 hf => ?_)
      · refine r_if_ge (pc := 67) (tgt := 110) h dX3_search_67 (by decide) (fun _ => ?_) (fun q => absurd hc3 q)
        refine r_iinc (pc := 110) (v := (l4 + 1)) (L' := [some (.inr 21), none, some (.inl l2), some (.inl l3), some (.inl (l4 + 1))]) h dX3_search_110 rfl rfl (by decide) rfl ?_
        refine r_goto (pc := 113) (tgt := 53) h dX3_search_113 (by decide) ?_
        exact ih _ _ _ _ hf
      · refine r_if_ge (pc := 67) (tgt := 110) h dX3_search_67 (by decide) (fun q => absurd q hc3) (fun _ => ?_)
        refine r_aload_n (pc := 70) h dX3_search_70 rfl ?_
        refine gf_X3_27 (pc := 71) h dX3_search_71 ?_
        refine r_iload_n (pc := 74) h dX3_search_74 rfl ?_
        refine r_iload (pc := 75) h dX3_search_75 rfl ?_
        refine p_b hf (fun q4 e5 hf => ?_)
        refine r_cVi (pc := 77) (k := 15) (st := []) h [.inl l3, .inl l4] cv_X4_mayGo wm_X3_60 (c_X4_mayGo e5) ⟨rfl, rfl, Nat.le_of_ble_eq_true rfl, Nat.le_of_ble_eq_true rfl⟩ hshX_15 rfl rfl (Nat.le_of_ble_eq_true rfl) dX3_search_77 ?_
        refine p_ite hf (fun hc6 hf => ?_) (fun hc6 hf => ?_)
        · refine r_if_eq (pc := 80) (tgt := 110) h dX3_search_80 (by decide) (fun _ => ?_) (fun q => absurd hc6 q)
          refine r_iinc (pc := 110) (v := (l4 + 1)) (L' := [some (.inr 21), none, some (.inl l2), some (.inl l3), some (.inl (l4 + 1))]) h dX3_search_110 rfl rfl (by decide) rfl ?_
          refine r_goto (pc := 113) (tgt := 53) h dX3_search_113 (by decide) ?_
          exact ih _ _ _ _ hf
        · refine r_if_eq (pc := 80) (tgt := 110) h dX3_search_80 (by decide) (fun q => absurd q hc6) (fun _ => ?_)
          refine r_aload_n (pc := 83) h dX3_search_83 rfl ?_
          refine gf_X3_18 (pc := 84) h dX3_search_84 ?_
          refine r_iload (pc := 87) h dX3_search_87 rfl ?_
          refine r_iload_n (pc := 89) h dX3_search_89 rfl ?_
          refine r_iast (pc := 90) (k := 24) h hshX_24 hi2 dX3_search_90 ?_
          refine r_aload_n (pc := 91) h dX3_search_91 rfl ?_
          refine gf_X3_9 (pc := 92) h dX3_search_92 ?_
          refine r_iload (pc := 95) h dX3_search_95 rfl ?_
          refine r_iald (pc := 97) (k := 22) (v := (u 22 l4.toNatClampNeg)) h hshX_22 hi2 rfl dX3_search_97 ?_
          refine p_ite hf (fun hc7 hf => ?_) (fun hc7 hf => ?_)
          · refine r_if_le (pc := 98) (tgt := 104) h dX3_search_98 (by decide) (fun _ => ?_) (fun q => absurd hc7 q)
            refine r_aload_n (pc := 104) h dX3_search_104 rfl ?_
            refine r_iload (pc := 105) h dX3_search_105 rfl ?_
            refine p_b hf (fun q8 e9 hf => ?_)
            refine r_cVv (pc := 107) (k := 21) (st := []) h [.inl l4] cv_X3_enqueueThoseGoingTo wm_X3_64 (c_X3_enqueueThoseGoingTo e9) ⟨rfl, rfl, Nat.le_of_ble_eq_true rfl, Nat.le_of_ble_eq_true rfl⟩ hshX_21 rfl rfl (Nat.le_of_ble_eq_true rfl) dX3_search_107 ?_
            refine r_iinc (pc := 110) (v := (l4 + 1)) (L' := [some (.inr 21), none, some (.inl l2), some (.inl l3), some (.inl (l4 + 1))]) h dX3_search_110 rfl rfl (by decide) rfl ?_
            refine r_goto (pc := 113) (tgt := 53) h dX3_search_113 (by decide) ?_
            exact ih _ _ _ _ hf
          · refine r_if_le (pc := 98) (tgt := 104) h dX3_search_98 (by decide) (fun q => absurd q hc7) (fun _ => ?_)
            refine r_iload (pc := 101) h dX3_search_101 rfl ?_
            have hf := Option.some.inj hf
            subst hf
            exact hr 103 _ dX3_search_103
set_option maxRecDepth 100000 in
set_option maxHeartbeats 4000000 in
theorem w_X3_search_29 {K : Kx} {E : Ex} (h : Ok shX K E RX3 cX3_search 5 rm_X3_search) {r : Int32 × St} (hr : RetI shX K E cX3_search 5 r.1 r.2) : ∀ (n : Nat) (u : St) (l2 : Int32), f_X3_search_29 n u l2 = some r → Vd shX K E 5 29 [some (.inr 21), none, some (.inl l2), none, none] [] u := by
  intro n
  induction n with
  | zero => intro u l2 hf; cases hf
  | succ n ih =>
    intro u l2 hf
    refine r_iload_n (pc := 29) h dX3_search_29 rfl ?_
    refine r_aload_n (pc := 30) h dX3_search_30 rfl ?_
    refine gf_X3_53 (pc := 31) (v := (u 21 6)) h rfl dX3_search_31 ?_
    refine p_ite hf (fun hc10 hf => ?_) (fun hc10 hf => ?_)
    · refine r_icmp_ge (pc := 34) (tgt := 122) h dX3_search_34 (by decide) (fun _ => ?_) (fun q => absurd hc10 q)
      refine r_iconst (pc := 122) (v := (-1)) h dX3_search_122 (by decide) ?_
      have hf := Option.some.inj hf
      subst hf
      exact hr 123 _ dX3_search_123
    · refine r_icmp_ge (pc := 34) (tgt := 122) h dX3_search_34 (by decide) (fun q => absurd q hc10) (fun _ => ?_)
      refine r_iload_n (pc := 37) h dX3_search_37 rfl ?_
      refine r_bipush (pc := 38) (v := 12) h dX3_search_38 (by decide) ?_
      refine p_ite hf (fun hc11 hf => ?_) (fun hc11 hf => ?_)
      · refine r_icmp_ge (pc := 40) (tgt := 122) h dX3_search_40 (by decide) (fun _ => ?_) (fun q => absurd hc11 q)
        refine r_iconst (pc := 122) (v := (-1)) h dX3_search_122 (by decide) ?_
        have hf := Option.some.inj hf
        subst hf
        exact hr 123 _ dX3_search_123
      · refine r_icmp_ge (pc := 40) (tgt := 122) h dX3_search_40 (by decide) (fun q => absurd q hc11) (fun _ => ?_)
        refine r_aload_n (pc := 43) h dX3_search_43 rfl ?_
        refine gf_X3_24 (pc := 44) h dX3_search_44 ?_
        refine r_iload_n (pc := 47) h dX3_search_47 rfl ?_
        refine p_g hf (fun hi12 hf => ?_)
        refine r_iald (pc := 48) (k := 26) (v := (u 26 l2.toNatClampNeg)) h hshX_26 hi12 rfl dX3_search_48 ?_
        refine r_istore_n (pc := 49) (L' := [some (.inr 21), none, some (.inl l2), some (.inl (u 26 l2.toNatClampNeg)), none]) h dX3_search_49 (by decide) rfl ?_
        refine r_iconst (pc := 50) (v := 0) h dX3_search_50 (by decide) ?_
        refine r_istore (pc := 51) (L' := [some (.inr 21), none, some (.inl l2), some (.inl (u 26 l2.toNatClampNeg)), some (.inl 0)]) h dX3_search_51 (by decide) rfl ?_
        exact w_X3_search_53 h hr (fun u9 x0 e9 => ih u9 x0 e9) FU _ _ _ _ hf
set_option maxRecDepth 100000 in
set_option maxHeartbeats 4000000 in
theorem w_X3_search_0 {K : Kx} {E : Ex} (h : Ok shX K E RX3 cX3_search 5 rm_X3_search) {r : Int32 × St} (hr : RetI shX K E cX3_search 5 r.1 r.2) (u : St) (l1 : Int32) (hf : f_X3_search u l1 = some r) : Vd shX K E 5 0 [some (.inr 21), some (.inl l1), none, none, none] [] u := by
  refine r_aload_n (pc := 0) h dX3_search_0 rfl ?_
  refine gf_X3_18 (pc := 1) h dX3_search_1 ?_
  refine r_iconst (pc := 4) (v := (-1)) h dX3_search_4 (by decide) ?_
  refine p_b hf (fun q13 e14 hf => ?_)
  refine r_cSv (pc := 5) (st := []) h [.inr 24, .inl (-1)] cs_J7_fill_53178 wm_X3_31 (c_J7_fill_24 e14) ⟨rfl, rfl, Nat.le_of_ble_eq_true rfl, Nat.le_of_ble_eq_true rfl⟩ (Nat.le_of_ble_eq_true rfl) dX3_search_5 ?_
  refine r_aload_n (pc := 8) h dX3_search_8 rfl ?_
  refine gf_X3_21 (pc := 9) h dX3_search_9 ?_
  refine r_iconst (pc := 12) (v := (-1)) h dX3_search_12 (by decide) ?_
  refine p_b hf (fun q15 e16 hf => ?_)
  refine r_cSv (pc := 13) (st := []) h [.inr 25, .inl (-1)] cs_J7_fill_53178 wm_X3_31 (c_J7_fill_25 e16) ⟨rfl, rfl, Nat.le_of_ble_eq_true rfl, Nat.le_of_ble_eq_true rfl⟩ (Nat.le_of_ble_eq_true rfl) dX3_search_13 ?_
  refine r_aload_n (pc := 16) h dX3_search_16 rfl ?_
  refine r_iconst (pc := 17) (v := 0) h dX3_search_17 (by decide) ?_
  refine pf_X3_53 (pc := 18) h dX3_search_18 ?_
  refine r_aload_n (pc := 21) h dX3_search_21 rfl ?_
  refine r_iload_n (pc := 22) h dX3_search_22 rfl ?_
  refine r_iload_n (pc := 23) h dX3_search_23 rfl ?_
  refine p_b hf (fun q17 e18 hf => ?_)
  refine r_cVv (pc := 24) (k := 21) (st := []) h [.inl l1, .inl l1] cv_X3_enqueue wm_X3_57 (c_X3_enqueue e18) ⟨rfl, rfl, Nat.le_of_ble_eq_true rfl, Nat.le_of_ble_eq_true rfl⟩ hshX_21 rfl rfl (Nat.le_of_ble_eq_true rfl) dX3_search_24 ?_
  refine r_iconst (pc := 27) (v := 0) h dX3_search_27 (by decide) ?_
  refine r_istore_n (pc := 28) (L' := [some (.inr 21), some (.inl l1), some (.inl 0), none, none]) h dX3_search_28 (by decide) rfl ?_
  refine r_le [some (.inr 21), none, some (.inl 0), none, none] ⟨rfl, ⟨rfl, trivial⟩⟩ ?_
  exact w_X3_search_29 h hr FU _ _ hf
theorem c_X3_search {u : St} {l1 : Int32} {r : Int32 × St} (hf : f_X3_search u l1 = some r) : CtI shX yX3_search cX3_search 5 (some .int) rm_X3_search [.inr 21, .inl l1] u r.1 r.2 := ct_I (by decide +kernel) (Nat.le_of_ble_eq_true rfl) (fun K E h hr => w_X3_search_0 h hr _ _ hf)
