set_option maxRecDepth 100000 in
set_option maxHeartbeats 4000000 in
theorem w_X6_costTonight_0 {K : Kx} {E : Ex} (h : Ok shX K E RX6 cX6_costTonight 6 rm_X6_costTonight) {r : Int32} {u : St} (hr : RetI shX K E cX6_costTonight 6 r u) (l1 l2 l3 : Int32) (hf : f_X6_costTonight u l1 l2 l3 = some r) : Vd shX K E 6 0 [some (.inr 0), some (.inl l1), some (.inl l2), some (.inl l3), none, none] [] u := by
  refine r_aload_n (pc := 0) h dX6_costTonight_0 rfl ?_
  refine gf_X6_19 (pc := 1) h dX6_costTonight_1 ?_
  refine r_iload_n (pc := 4) h dX6_costTonight_4 rfl ?_
  refine r_iload_n (pc := 5) h dX6_costTonight_5 rfl ?_
  refine p_b hf (fun q1 e2 hf => ?_)
  refine r_cVi (pc := 6) (k := 3) (st := []) h [.inl l1, .inl l2] cv_X2_at wm_X6_108 (c_X2_at e2) ⟨rfl, rfl, Nat.le_of_ble_eq_true rfl, Nat.le_of_ble_eq_true rfl⟩ hshX_3 rfl rfl (Nat.le_of_ble_eq_true rfl) dX6_costTonight_6 ?_
  refine r_istore (pc := 9) (L' := [some (.inr 0), some (.inl l1), some (.inl l2), some (.inl l3), some (.inl q1), none]) h dX6_costTonight_9 (by decide) rfl ?_
  refine r_aload_n (pc := 11) h dX6_costTonight_11 rfl ?_
  refine gf_X6_10 (pc := 12) h dX6_costTonight_12 ?_
  refine r_iload (pc := 15) h dX6_costTonight_15 rfl ?_
  refine r_iload_n (pc := 17) h dX6_costTonight_17 rfl ?_
  refine p_b hf (fun q3 e4 hf => ?_)
  refine r_cVi (pc := 18) (k := 1) (st := []) h [.inl q1, .inl l3] cv_X5_sizesAway wm_X6_256 (c_X5_sizesAway e4) ⟨rfl, rfl, Nat.le_of_ble_eq_true rfl, Nat.le_of_ble_eq_true rfl⟩ hshX_1 rfl rfl (Nat.le_of_ble_eq_true rfl) dX6_costTonight_18 ?_
  refine r_istore (pc := 21) (L' := [some (.inr 0), some (.inl l1), some (.inl l2), some (.inl l3), some (.inl q1), some (.inl q3)]) h dX6_costTonight_21 (by decide) rfl ?_
  refine r_iload (pc := 23) h dX6_costTonight_23 rfl ?_
  refine p_ite hf (fun hc5 hf => ?_) (fun hc5 hf => ?_)
  · refine r_if_ne (pc := 25) (tgt := 30) h dX6_costTonight_25 (by decide) (fun q => absurd hc5 q) (fun _ => ?_)
    refine r_iconst (pc := 28) (v := 0) h dX6_costTonight_28 (by decide) ?_
    have hf := Option.some.inj hf
    subst hf
    exact hr 29 _ dX6_costTonight_29
  · refine r_if_ne (pc := 25) (tgt := 30) h dX6_costTonight_25 (by decide) (fun _ => ?_) (fun q => absurd q hc5)
    refine r_aload_n (pc := 30) h dX6_costTonight_30 rfl ?_
    refine r_iload_n (pc := 31) h dX6_costTonight_31 rfl ?_
    refine r_iload_n (pc := 32) h dX6_costTonight_32 rfl ?_
    refine r_iload_n (pc := 33) h dX6_costTonight_33 rfl ?_
    refine p_b hf (fun q6 e7 hf => ?_)
    refine r_cVi (pc := 34) (k := 0) (st := []) h [.inl l1, .inl l2, .inl l3] cv_X6_countAheadForSwap wm_X6_259 (c_X6_countAheadForSwap e7) ⟨rfl, rfl, Nat.le_of_ble_eq_true rfl, Nat.le_of_ble_eq_true rfl⟩ hshX_0 rfl rfl (Nat.le_of_ble_eq_true rfl) dX6_costTonight_34 ?_
    refine r_aload_n (pc := 37) h dX6_costTonight_37 rfl ?_
    refine r_iload (pc := 38) h dX6_costTonight_38 rfl ?_
    refine r_iload_n (pc := 40) h dX6_costTonight_40 rfl ?_
    refine p_b hf (fun q8 e9 hf => ?_)
    refine r_cVi (pc := 41) (k := 0) (st := [.inl q6]) h [.inl q1, .inl l3] cv_X6_countSpares wm_X6_262 (c_X6_countSpares e9) ⟨rfl, rfl, Nat.le_of_ble_eq_true rfl, Nat.le_of_ble_eq_true rfl⟩ hshX_0 rfl rfl (Nat.le_of_ble_eq_true rfl) dX6_costTonight_41 ?_
    refine p_ite hf (fun hc10 hf => ?_) (fun hc10 hf => ?_)
    · refine r_icmp_ge (pc := 44) (tgt := 51) h dX6_costTonight_44 (by decide) (fun _ => ?_) (fun q => absurd hc10 q)
      refine r_bipush (pc := 51) (v := 10) h dX6_costTonight_51 (by decide) ?_
      refine r_iload (pc := 53) h dX6_costTonight_53 rfl ?_
      refine r_imul (pc := 55) h dX6_costTonight_55 ?_
      have hf := Option.some.inj hf
      subst hf
      exact hr 56 _ dX6_costTonight_56
    · refine r_icmp_ge (pc := 44) (tgt := 51) h dX6_costTonight_44 (by decide) (fun q => absurd q hc10) (fun _ => ?_)
      refine r_iconst (pc := 47) (v := 1) h dX6_costTonight_47 (by decide) ?_
      refine r_goto (pc := 48) (tgt := 56) h dX6_costTonight_48 (by decide) ?_
      have hf := Option.some.inj hf
      subst hf
      exact hr 56 _ dX6_costTonight_56
theorem c_X6_costTonight {u : St} {l1 l2 l3 : Int32} {r : Int32} (hf : f_X6_costTonight u l1 l2 l3 = some r) : CtI shX yX6_costTonight cX6_costTonight 6 (some .int) rm_X6_costTonight [.inr 0, .inl l1, .inl l2, .inl l3] u r u := ct_I (by decide +kernel) (Nat.le_of_ble_eq_true rfl) (fun K E h hr => w_X6_costTonight_0 h hr _ _ _ hf)
set_option maxRecDepth 100000 in
set_option maxHeartbeats 4000000 in
theorem w_X6_tonight_43 {K : Kx} {E : Ex} (h : Ok shX K E RX6 cX6_tonight 6 rm_X6_tonight) {r : Int32 × St} (hr : RetI shX K E cX6_tonight 6 r.1 r.2) : ∀ (n : Nat) (u : St) (l1 l2 l3 l4 l5 : Int32), f_X6_tonight_43 n u l1 l2 l3 l4 l5 = some r → Vd shX K E 6 43 [some (.inr 0), some (.inl l1), some (.inl l2), some (.inl l3), some (.inl l4), some (.inl l5)] [] u := by
  intro n
  induction n with
  | zero => intro u l1 l2 l3 l4 l5 hf; cases hf
  | succ n ih =>
    intro u l1 l2 l3 l4 l5 hf
    refine r_iload (pc := 43) h dX6_tonight_43 rfl ?_
    refine r_iload (pc := 45) h dX6_tonight_45 rfl ?_
    refine p_ite hf (fun hc1 hf => ?_) (fun hc1 hf => ?_)
    · refine r_icmp_ge (pc := 47) (tgt := 67) h dX6_tonight_47 (by decide) (fun _ => ?_) (fun q => absurd hc1 q)
      refine r_iload_n (pc := 67) h dX6_tonight_67 rfl ?_
      have hf := Option.some.inj hf
      subst hf
      exact hr 68 _ dX6_tonight_68
    · refine r_icmp_ge (pc := 47) (tgt := 67) h dX6_tonight_47 (by decide) (fun q => absurd q hc1) (fun _ => ?_)
      refine r_iload_n (pc := 50) h dX6_tonight_50 rfl ?_
      refine r_aload_n (pc := 51) h dX6_tonight_51 rfl ?_
      refine r_iload_n (pc := 52) h dX6_tonight_52 rfl ?_
      refine r_iload (pc := 53) h dX6_tonight_53 rfl ?_
      refine r_iload_n (pc := 55) h dX6_tonight_55 rfl ?_
      refine p_b hf (fun q2 e3 hf => ?_)
      refine r_cVi (pc := 56) (k := 0) (st := [.inl l3]) h [.inl l1, .inl l5, .inl l2] cv_X6_costTonight wm_X6_196 (c_X6_costTonight e3) ⟨rfl, rfl, Nat.le_of_ble_eq_true rfl, Nat.le_of_ble_eq_true rfl⟩ hshX_0 rfl rfl (Nat.le_of_ble_eq_true rfl) dX6_tonight_56 ?_
      refine r_iadd (pc := 59) h dX6_tonight_59 ?_
      refine r_istore_n (pc := 60) (L' := [some (.inr 0), some (.inl l1), some (.inl l2), some (.inl (l3 + q2)), some (.inl l4), some (.inl l5)]) h dX6_tonight_60 (by decide) rfl ?_
      refine r_iinc (pc := 61) (v := (l5 + 1)) (L' := [some (.inr 0), some (.inl l1), some (.inl l2), some (.inl (l3 + q2)), some (.inl l4), some (.inl (l5 + 1))]) h dX6_tonight_61 rfl rfl (by decide) rfl ?_
      refine r_goto (pc := 64) (tgt := 43) h dX6_tonight_64 (by decide) ?_
      exact ih _ _ _ _ _ _ hf
set_option maxRecDepth 100000 in
set_option maxHeartbeats 4000000 in
theorem w_X6_tonight_0 {K : Kx} {E : Ex} (h : Ok shX K E RX6 cX6_tonight 6 rm_X6_tonight) {r : Int32 × St} (hr : RetI shX K E cX6_tonight 6 r.1 r.2) (u : St) (l1 l2 : Int32) (hf : f_X6_tonight u l1 l2 = some r) : Vd shX K E 6 0 [some (.inr 0), some (.inl l1), some (.inl l2), none, none, none] [] u := by
  refine r_aload_n (pc := 0) h dX6_tonight_0 rfl ?_
  refine gf_X6_19 (pc := 1) h dX6_tonight_1 ?_
  refine r_iload_n (pc := 4) h dX6_tonight_4 rfl ?_
  refine p_b hf (fun q4 e5 hf => ?_)
  refine r_cVi (pc := 5) (k := 3) (st := []) h [.inl l1] cv_X2_has wm_X6_95 (c_X2_has e5) ⟨rfl, rfl, Nat.le_of_ble_eq_true rfl, Nat.le_of_ble_eq_true rfl⟩ hshX_3 rfl rfl (Nat.le_of_ble_eq_true rfl) dX6_tonight_5 ?_
  refine p_ite hf (fun hc6 hf => ?_) (fun hc6 hf => ?_)
  · refine r_if_eq (pc := 8) (tgt := 22) h dX6_tonight_8 (by decide) (fun _ => ?_) (fun q => absurd hc6 q)
    refine r_aload_n (pc := 22) h dX6_tonight_22 rfl ?_
    refine r_iconst (pc := 23) (v := 1) h dX6_tonight_23 (by decide) ?_
    refine p_b hf (fun q7 e8 hf => ?_)
    refine r_cVi (pc := 24) (k := 0) (st := []) h [.inl 1] cv_X6_finding wm_X6_72 (c_X6_finding e8) ⟨rfl, rfl, Nat.le_of_ble_eq_true rfl, Nat.le_of_ble_eq_true rfl⟩ hshX_0 rfl rfl (Nat.le_of_ble_eq_true rfl) dX6_tonight_24 ?_
    have hf := Option.some.inj hf
    subst hf
    exact hr 27 _ dX6_tonight_27
  · refine r_if_eq (pc := 8) (tgt := 22) h dX6_tonight_8 (by decide) (fun q => absurd q hc6) (fun _ => ?_)
    refine r_iload_n (pc := 11) h dX6_tonight_11 rfl ?_
    refine r_bipush (pc := 12) (v := 30) h dX6_tonight_12 (by decide) ?_
    refine r_bipush (pc := 14) (v := 66) h dX6_tonight_14 (by decide) ?_
    refine p_b hf (fun q9 e10 hf => ?_)
    refine r_cSi (pc := 16) (st := []) h [.inl l2, .inl 30, .inl 66] cs_X6_isWithin wm_X6_88 (c_X6_isWithin e10) ⟨rfl, rfl, Nat.le_of_ble_eq_true rfl, Nat.le_of_ble_eq_true rfl⟩ (Nat.le_of_ble_eq_true rfl) dX6_tonight_16 ?_
    refine p_ite hf (fun hc11 hf => ?_) (fun hc11 hf => ?_)
    · refine r_if_ne (pc := 19) (tgt := 28) h dX6_tonight_19 (by decide) (fun q => absurd hc11 q) (fun _ => ?_)
      refine r_aload_n (pc := 22) h dX6_tonight_22 rfl ?_
      refine r_iconst (pc := 23) (v := 1) h dX6_tonight_23 (by decide) ?_
      refine p_b hf (fun q14 e15 hf => ?_)
      refine r_cVi (pc := 24) (k := 0) (st := []) h [.inl 1] cv_X6_finding wm_X6_72 (c_X6_finding e15) ⟨rfl, rfl, Nat.le_of_ble_eq_true rfl, Nat.le_of_ble_eq_true rfl⟩ hshX_0 rfl rfl (Nat.le_of_ble_eq_true rfl) dX6_tonight_24 ?_
      have hf := Option.some.inj hf
      subst hf
      exact hr 27 _ dX6_tonight_27
    · refine r_if_ne (pc := 19) (tgt := 28) h dX6_tonight_19 (by decide) (fun _ => ?_) (fun q => absurd q hc11)
      refine r_iconst (pc := 28) (v := 0) h dX6_tonight_28 (by decide) ?_
      refine r_istore_n (pc := 29) (L' := [some (.inr 0), some (.inl l1), some (.inl l2), some (.inl 0), none, none]) h dX6_tonight_29 (by decide) rfl ?_
      refine r_aload_n (pc := 30) h dX6_tonight_30 rfl ?_
      refine gf_X6_19 (pc := 31) h dX6_tonight_31 ?_
      refine r_iload_n (pc := 34) h dX6_tonight_34 rfl ?_
      refine p_b hf (fun q12 e13 hf => ?_)
      refine r_cVi (pc := 35) (k := 3) (st := []) h [.inl l1] cv_X2_sizeOf wm_X6_99 (c_X2_sizeOf e13) ⟨rfl, rfl, Nat.le_of_ble_eq_true rfl, Nat.le_of_ble_eq_true rfl⟩ hshX_3 rfl rfl (Nat.le_of_ble_eq_true rfl) dX6_tonight_35 ?_
      refine r_istore (pc := 38) (L' := [some (.inr 0), some (.inl l1), some (.inl l2), some (.inl 0), some (.inl q12), none]) h dX6_tonight_38 (by decide) rfl ?_
      refine r_iconst (pc := 40) (v := 0) h dX6_tonight_40 (by decide) ?_
      refine r_istore (pc := 41) (L' := [some (.inr 0), some (.inl l1), some (.inl l2), some (.inl 0), some (.inl q12), some (.inl 0)]) h dX6_tonight_41 (by decide) rfl ?_
      exact w_X6_tonight_43 h hr FU _ _ _ _ _ _ hf
theorem c_X6_tonight {u : St} {l1 l2 : Int32} {r : Int32 × St} (hf : f_X6_tonight u l1 l2 = some r) : CtI shX yX6_tonight cX6_tonight 6 (some .int) rm_X6_tonight [.inr 0, .inl l1, .inl l2] u r.1 r.2 := ct_I (by decide +kernel) (Nat.le_of_ble_eq_true rfl) (fun K E h hr => w_X6_tonight_0 h hr _ _ _ hf)
set_option maxRecDepth 100000 in
set_option maxHeartbeats 4000000 in
theorem w_X6_tell_0 {K : Kx} {E : Ex} (h : Ok shX K E RX6 cX6_tell 2 rm_X6_tell) {r : Int32 × St} (hr : RetI shX K E cX6_tell 2 r.1 r.2) (u : St) (l1 : Int32) (hf : f_X6_tell u l1 = some r) : Vd shX K E 2 0 [some (.inr 0), some (.inl l1)] [] u := by
  refine r_aload_n (pc := 0) h dX6_tell_0 rfl ?_
  refine gf_X6_199 (pc := 1) (v := (u 0 8)) h rfl dX6_tell_1 ?_
  refine r_bipush (pc := 4) (v := 30) h dX6_tell_4 (by decide) ?_
  refine p_ite hf (fun hc1 hf => ?_) (fun hc1 hf => ?_)
  · refine r_icmp_lt (pc := 6) (tgt := 15) h dX6_tell_6 (by decide) (fun _ => ?_) (fun q => absurd hc1 q)
    refine r_aload_n (pc := 15) h dX6_tell_15 rfl ?_
    refine gf_X6_57 (pc := 16) h dX6_tell_16 ?_
    refine r_aload_n (pc := 19) h dX6_tell_19 rfl ?_
    refine gf_X6_199 (pc := 20) (v := (u 0 8)) h rfl dX6_tell_20 ?_
    refine r_iload_n (pc := 23) h dX6_tell_23 rfl ?_
    refine p_g hf (fun hi2 hf => ?_)
    refine r_iast (pc := 24) (k := 29) h hshX_29 hi2 dX6_tell_24 ?_
    refine r_aload_n (pc := 25) h dX6_tell_25 rfl ?_
    refine r_dup (pc := 26) h dX6_tell_26 ?_
    refine gf_X6_199 (pc := 27) (v := (u 0 8)) h rfl dX6_tell_27 ?_
    refine r_iconst (pc := 30) (v := 1) h dX6_tell_30 (by decide) ?_
    refine r_iadd (pc := 31) h dX6_tell_31 ?_
    refine pf_X6_199 (pc := 32) h dX6_tell_32 ?_
    refine r_aload_n (pc := 35) h dX6_tell_35 rfl ?_
    refine gf_X6_199 (pc := 36) (v := ((u 0 8) + 1)) h rfl dX6_tell_36 ?_
    have hf := Option.some.inj hf
    subst hf
    exact hr 39 _ dX6_tell_39
  · refine r_icmp_lt (pc := 6) (tgt := 15) h dX6_tell_6 (by decide) (fun q => absurd q hc1) (fun _ => ?_)
    refine r_aload_n (pc := 9) h dX6_tell_9 rfl ?_
    refine r_iconst (pc := 10) (v := 4) h dX6_tell_10 (by decide) ?_
    refine p_b hf (fun q3 e4 hf => ?_)
    refine r_cVi (pc := 11) (k := 0) (st := []) h [.inl 4] cv_X6_finding wm_X6_72 (c_X6_finding e4) ⟨rfl, rfl, Nat.le_of_ble_eq_true rfl, Nat.le_of_ble_eq_true rfl⟩ hshX_0 rfl rfl (Nat.le_of_ble_eq_true rfl) dX6_tell_11 ?_
    have hf := Option.some.inj hf
    subst hf
    exact hr 14 _ dX6_tell_14
theorem c_X6_tell {u : St} {l1 : Int32} {r : Int32 × St} (hf : f_X6_tell u l1 = some r) : CtI shX yX6_tell cX6_tell 2 (some .int) rm_X6_tell [.inr 0, .inl l1] u r.1 r.2 := ct_I (by decide +kernel) (Nat.le_of_ble_eq_true rfl) (fun K E h hr => w_X6_tell_0 h hr _ _ hf)
set_option maxRecDepth 100000 in
set_option maxHeartbeats 4000000 in
theorem w_J7_fill_28_5 {K : Kx} {E : Ex} (h : Ok shX K E RJ7 cJ7_fill_53178 4 rm_J7_fill_28) {r : St} (hr : RetV shX K E cJ7_fill_53178 4 r) : ∀ (n : Nat) (u : St) (l1 l2 l3 : Int32), f_J7_fill_28_5 n u l1 l2 l3 = some r → Vd shX K E 4 5 [some (.inr 28), some (.inl l1), some (.inl l2), some (.inl l3)] [] u := by
  intro n
  induction n with
  | zero => intro u l1 l2 l3 hf; cases hf
  | succ n ih =>
    intro u l1 l2 l3 hf
    refine r_iload_n (pc := 5) h dJ7_fill_53178_5 rfl ?_
    refine r_iload_n (pc := 6) h dJ7_fill_53178_6 rfl ?_
    refine p_ite hf (fun hc1 hf => ?_) (fun hc1 hf => ?_)
    · refine r_icmp_ge (pc := 7) (tgt := 20) h dJ7_fill_53178_7 (by decide) (fun _ => ?_) (fun q => absurd hc1 q)
      have hf := Option.some.inj hf
      subst hf
      exact hr 20 _ dJ7_fill_53178_20
    · refine r_icmp_ge (pc := 7) (tgt := 20) h dJ7_fill_53178_7 (by decide) (fun q => absurd q hc1) (fun _ => ?_)
      refine r_aload_n (pc := 10) h dJ7_fill_53178_10 rfl ?_
      refine r_iload_n (pc := 11) h dJ7_fill_53178_11 rfl ?_
      refine r_iload_n (pc := 12) h dJ7_fill_53178_12 rfl ?_
      refine p_g hf (fun hi2 hf => ?_)
      refine r_iast (pc := 13) (k := 28) h hshX_28 hi2 dJ7_fill_53178_13 ?_
      refine r_iinc (pc := 14) (v := (l2 + 1)) (L' := [some (.inr 28), some (.inl l1), some (.inl (l2 + 1)), some (.inl l3)]) h dJ7_fill_53178_14 rfl rfl (by decide) rfl ?_
      refine r_goto (pc := 17) (tgt := 5) h dJ7_fill_53178_17 (by decide) ?_
      exact ih _ _ _ _ hf
set_option maxRecDepth 100000 in
set_option maxHeartbeats 4000000 in
theorem w_J7_fill_28_0 {K : Kx} {E : Ex} (h : Ok shX K E RJ7 cJ7_fill_53178 4 rm_J7_fill_28) {r : St} (hr : RetV shX K E cJ7_fill_53178 4 r) (u : St) (l1 : Int32) (hf : f_J7_fill_28 u l1 = some r) : Vd shX K E 4 0 [some (.inr 28), some (.inl l1), none, none] [] u := by
  refine r_iconst (pc := 0) (v := 0) h dJ7_fill_53178_0 (by decide) ?_
  refine r_istore_n (pc := 1) (L' := [some (.inr 28), some (.inl l1), some (.inl 0), none]) h dJ7_fill_53178_1 (by decide) rfl ?_
  refine r_aload_n (pc := 2) h dJ7_fill_53178_2 rfl ?_
  refine r_alen (pc := 3) (k := 28) (v := 32) h hshX_28 (by decide) dJ7_fill_53178_3 ?_
  refine r_istore_n (pc := 4) (L' := [some (.inr 28), some (.inl l1), some (.inl 0), some (.inl 32)]) h dJ7_fill_53178_4 (by decide) rfl ?_
  exact w_J7_fill_28_5 h hr FU _ _ _ _ hf
theorem c_J7_fill_28 {u : St} {l1 : Int32} {r : St} (hf : f_J7_fill_28 u l1 = some r) : CtV shX yJ7_fill_53178 cJ7_fill_53178 4 none rm_J7_fill_28 [.inr 28, .inl l1] u r := ct_V (by decide +kernel) (Nat.le_of_ble_eq_true rfl) (fun K E h hr => w_J7_fill_28_0 h hr _ _ hf)
set_option maxRecDepth 100000 in
set_option maxHeartbeats 4000000 in
theorem w_X0_undress_0 {K : Kx} {E : Ex} (h : Ok shX K E RX0 cX0_undress 1 rm_X0_undress) {r : St} (hr : RetV shX K E cX0_undress 1 r) (u : St) (hf : f_X0_undress u = some r) : Vd shX K E 1 0 [some (.inr 27)] [] u := by
  refine r_aload_n (pc := 0) h dX0_undress_0 rfl ?_
  refine gf_X0_9 (pc := 1) h dX0_undress_1 ?_
  refine r_iconst (pc := 4) (v := 0) h dX0_undress_4 (by decide) ?_
  refine p_b hf (fun q1 e2 hf => ?_)
  refine r_cSv (pc := 5) (st := []) h [.inr 28, .inl 0] cs_J7_fill_53178 wm_X0_19 (c_J7_fill_28 e2) ⟨rfl, rfl, Nat.le_of_ble_eq_true rfl, Nat.le_of_ble_eq_true rfl⟩ (Nat.le_of_ble_eq_true rfl) dX0_undress_5 ?_
  refine r_aload_n (pc := 8) h dX0_undress_8 rfl ?_
  refine r_iconst (pc := 9) (v := 0) h dX0_undress_9 (by decide) ?_
  refine pf_X0_25 (pc := 10) h dX0_undress_10 ?_
  have hf := Option.some.inj hf
  subst hf
  exact hr 13 _ dX0_undress_13
theorem c_X0_undress {u : St} {r : St} (hf : f_X0_undress u = some r) : CtV shX yX0_undress cX0_undress 1 none rm_X0_undress [.inr 27] u r := ct_V (by decide +kernel) (Nat.le_of_ble_eq_true rfl) (fun K E h hr => w_X0_undress_0 h hr _ hf)
set_option maxRecDepth 100000 in
set_option maxHeartbeats 4000000 in
theorem w_X0_hasOn_0 {K : Kx} {E : Ex} (h : Ok shX K E RX0 cX0_hasOn 2 rm_X0_hasOn) {r : Int32} {u : St} (hr : RetZ shX K E cX0_hasOn 2 r u) (l1 : Int32) (hf : f_X0_hasOn u l1 = some r) : Vd shX K E 2 0 [some (.inr 27), some (.inl l1)] [] u := by
  refine r_aload_n (pc := 0) h dX0_hasOn_0 rfl ?_
  refine gf_X0_15 (pc := 1) h dX0_hasOn_1 ?_
  refine r_iload_n (pc := 4) h dX0_hasOn_4 rfl ?_
  refine p_b hf (fun q1 e2 hf => ?_)
  refine r_cVi (pc := 5) (k := 1) (st := []) h [.inl l1] cv_X5_has wm_X0_29 (c_X5_has e2) ⟨rfl, rfl, Nat.le_of_ble_eq_true rfl, Nat.le_of_ble_eq_true rfl⟩ hshX_1 rfl rfl (Nat.le_of_ble_eq_true rfl) dX0_hasOn_5 ?_
  refine p_ite hf (fun hc3 hf => ?_) (fun hc3 hf => ?_)
  · refine r_if_eq (pc := 8) (tgt := 30) h dX0_hasOn_8 (by decide) (fun _ => ?_) (fun q => absurd hc3 q)
    refine r_iconst (pc := 30) (v := 0) h dX0_hasOn_30 (by decide) ?_
    have hf := Option.some.inj hf
    subst hf
    exact hr 31 _ dX0_hasOn_31 z_0
  · refine r_if_eq (pc := 8) (tgt := 30) h dX0_hasOn_8 (by decide) (fun q => absurd q hc3) (fun _ => ?_)
    refine r_iload_n (pc := 11) h dX0_hasOn_11 rfl ?_
    refine r_bipush (pc := 12) (v := 32) h dX0_hasOn_12 (by decide) ?_
    refine p_ite hf (fun hc4 hf => ?_) (fun hc4 hf => ?_)
    · refine r_icmp_ge (pc := 14) (tgt := 30) h dX0_hasOn_14 (by decide) (fun _ => ?_) (fun q => absurd hc4 q)
      refine r_iconst (pc := 30) (v := 0) h dX0_hasOn_30 (by decide) ?_
      have hf := Option.some.inj hf
      subst hf
      exact hr 31 _ dX0_hasOn_31 z_0
    · refine r_icmp_ge (pc := 14) (tgt := 30) h dX0_hasOn_14 (by decide) (fun q => absurd q hc4) (fun _ => ?_)
      refine r_aload_n (pc := 17) h dX0_hasOn_17 rfl ?_
      refine gf_X0_9 (pc := 18) h dX0_hasOn_18 ?_
      refine r_iload_n (pc := 21) h dX0_hasOn_21 rfl ?_
      refine p_g hf (fun hi5 hf => ?_)
      refine r_iald (pc := 22) (k := 28) (v := (u 28 l1.toNatClampNeg)) h hshX_28 hi5 rfl dX0_hasOn_22 ?_
      refine p_ite hf (fun hc6 hf => ?_) (fun hc6 hf => ?_)
      · refine r_if_le (pc := 23) (tgt := 30) h dX0_hasOn_23 (by decide) (fun _ => ?_) (fun q => absurd hc6 q)
        refine r_iconst (pc := 30) (v := 0) h dX0_hasOn_30 (by decide) ?_
        have hf := Option.some.inj hf
        subst hf
        exact hr 31 _ dX0_hasOn_31 z_0
      · refine r_if_le (pc := 23) (tgt := 30) h dX0_hasOn_23 (by decide) (fun q => absurd q hc6) (fun _ => ?_)
        refine r_iconst (pc := 26) (v := 1) h dX0_hasOn_26 (by decide) ?_
        refine r_goto (pc := 27) (tgt := 31) h dX0_hasOn_27 (by decide) ?_
        have hf := Option.some.inj hf
        subst hf
        exact hr 31 _ dX0_hasOn_31 z_1
theorem c_X0_hasOn {u : St} {l1 : Int32} {r : Int32} (hf : f_X0_hasOn u l1 = some r) : CtI shX yX0_hasOn cX0_hasOn 2 (some .boolean) rm_X0_hasOn [.inr 27, .inl l1] u r u := ct_Z (by decide +kernel) (Nat.le_of_ble_eq_true rfl) (fun K E h hr => w_X0_hasOn_0 h hr _ hf)
set_option maxRecDepth 100000 in
set_option maxHeartbeats 4000000 in
theorem w_X0_putOn_0 {K : Kx} {E : Ex} (h : Ok shX K E RX0 cX0_putOn 2 rm_X0_putOn) {r : Int32 × St} (hr : RetZ shX K E cX0_putOn 2 r.1 r.2) (u : St) (l1 : Int32) (hf : f_X0_putOn u l1 = some r) : Vd shX K E 2 0 [some (.inr 27), some (.inl l1)] [] u := by
  refine r_aload_n (pc := 0) h dX0_putOn_0 rfl ?_
  refine gf_X0_15 (pc := 1) h dX0_putOn_1 ?_
  refine r_iload_n (pc := 4) h dX0_putOn_4 rfl ?_
  refine p_b hf (fun q1 e2 hf => ?_)
  refine r_cVi (pc := 5) (k := 1) (st := []) h [.inl l1] cv_X5_has wm_X0_29 (c_X5_has e2) ⟨rfl, rfl, Nat.le_of_ble_eq_true rfl, Nat.le_of_ble_eq_true rfl⟩ hshX_1 rfl rfl (Nat.le_of_ble_eq_true rfl) dX0_putOn_5 ?_
  refine p_ite hf (fun hc3 hf => ?_) (fun hc3 hf => ?_)
  · refine r_if_eq (pc := 8) (tgt := 19) h dX0_putOn_8 (by decide) (fun _ => ?_) (fun q => absurd hc3 q)
    refine r_iconst (pc := 19) (v := 0) h dX0_putOn_19 (by decide) ?_
    have hf := Option.some.inj hf
    subst hf
    exact hr 20 _ dX0_putOn_20 z_0
  · refine r_if_eq (pc := 8) (tgt := 19) h dX0_putOn_8 (by decide) (fun q => absurd q hc3) (fun _ => ?_)
    refine r_aload_n (pc := 11) h dX0_putOn_11 rfl ?_
    refine r_iload_n (pc := 12) h dX0_putOn_12 rfl ?_
    refine p_b hf (fun q4 e5 hf => ?_)
    refine r_cVi (pc := 13) (k := 27) (st := []) h [.inl l1] cv_X0_hasOn wm_X0_35 (c_X0_hasOn e5) ⟨rfl, rfl, Nat.le_of_ble_eq_true rfl, Nat.le_of_ble_eq_true rfl⟩ hshX_27 rfl rfl (Nat.le_of_ble_eq_true rfl) dX0_putOn_13 ?_
    refine p_ite hf (fun hc6 hf => ?_) (fun hc6 hf => ?_)
    · refine r_if_eq (pc := 16) (tgt := 21) h dX0_putOn_16 (by decide) (fun _ => ?_) (fun q => absurd hc6 q)
      refine r_aload_n (pc := 21) h dX0_putOn_21 rfl ?_
      refine r_dup (pc := 22) h dX0_putOn_22 ?_
      refine gf_X0_25 (pc := 23) (v := (u 27 2)) h rfl dX0_putOn_23 ?_
      refine r_iconst (pc := 26) (v := 1) h dX0_putOn_26 (by decide) ?_
      refine r_iadd (pc := 27) h dX0_putOn_27 ?_
      refine pf_X0_25 (pc := 28) h dX0_putOn_28 ?_
      refine r_aload_n (pc := 31) h dX0_putOn_31 rfl ?_
      refine gf_X0_9 (pc := 32) h dX0_putOn_32 ?_
      refine r_iload_n (pc := 35) h dX0_putOn_35 rfl ?_
      refine r_aload_n (pc := 36) h dX0_putOn_36 rfl ?_
      refine gf_X0_25 (pc := 37) (v := ((u 27 2) + 1)) h rfl dX0_putOn_37 ?_
      refine p_g hf (fun hi7 hf => ?_)
      refine r_iast (pc := 40) (k := 28) h hshX_28 hi7 dX0_putOn_40 ?_
      refine r_iconst (pc := 41) (v := 1) h dX0_putOn_41 (by decide) ?_
      have hf := Option.some.inj hf
      subst hf
      exact hr 42 _ dX0_putOn_42 z_1
    · refine r_if_eq (pc := 16) (tgt := 21) h dX0_putOn_16 (by decide) (fun q => absurd q hc6) (fun _ => ?_)
      refine r_iconst (pc := 19) (v := 0) h dX0_putOn_19 (by decide) ?_
      have hf := Option.some.inj hf
      subst hf
      exact hr 20 _ dX0_putOn_20 z_0
theorem c_X0_putOn {u : St} {l1 : Int32} {r : Int32 × St} (hf : f_X0_putOn u l1 = some r) : CtI shX yX0_putOn cX0_putOn 2 (some .boolean) rm_X0_putOn [.inr 27, .inl l1] u r.1 r.2 := ct_Z (by decide +kernel) (Nat.le_of_ble_eq_true rfl) (fun K E h hr => w_X0_putOn_0 h hr _ _ hf)
set_option maxRecDepth 100000 in
set_option maxHeartbeats 4000000 in
theorem w_X6_dressForChange_73 {K : Kx} {E : Ex} (h : Ok shX K E RX6 cX6_dressForChange 7 rm_X6_dressForChange) {r : St} (hr : RetV shX K E cX6_dressForChange 7 r) : ∀ (n : Nat) (u : St) (l1 l4 l6 : Int32), f_X6_dressForChange_73 n u l1 l4 l6 = some r → Vd shX K E 7 73 [some (.inr 0), some (.inl l1), none, none, some (.inl l4), none, some (.inl l6)] [] u := by
  intro n
  induction n with
  | zero => intro u l1 l4 l6 hf; cases hf
  | succ n ih =>
    intro u l1 l4 l6 hf
    refine r_iload (pc := 73) h dX6_dressForChange_73 rfl ?_
    refine r_iload (pc := 75) h dX6_dressForChange_75 rfl ?_
    refine p_ite hf (fun hc1 hf => ?_) (fun hc1 hf => ?_)
    · refine r_icmp_ge (pc := 77) (tgt := 104) h dX6_dressForChange_77 (by decide) (fun _ => ?_) (fun q => absurd hc1 q)
      have hf := Option.some.inj hf
      subst hf
      exact hr 104 _ dX6_dressForChange_104
    · refine r_icmp_ge (pc := 77) (tgt := 104) h dX6_dressForChange_77 (by decide) (fun q => absurd q hc1) (fun _ => ?_)
      refine r_aload_n (pc := 80) h dX6_dressForChange_80 rfl ?_
      refine gf_X6_53 (pc := 81) h dX6_dressForChange_81 ?_
      refine r_aload_n (pc := 84) h dX6_dressForChange_84 rfl ?_
      refine gf_X6_19 (pc := 85) h dX6_dressForChange_85 ?_
      refine r_iload_n (pc := 88) h dX6_dressForChange_88 rfl ?_
      refine r_iload (pc := 89) h dX6_dressForChange_89 rfl ?_
      refine p_b hf (fun q2 e3 hf => ?_)
      refine r_cVi (pc := 91) (k := 3) (st := [.inr 27]) h [.inl l1, .inl l6] cv_X2_at wm_X6_108 (c_X2_at e3) ⟨rfl, rfl, Nat.le_of_ble_eq_true rfl, Nat.le_of_ble_eq_true rfl⟩ hshX_3 rfl rfl (Nat.le_of_ble_eq_true rfl) dX6_dressForChange_91 ?_
      refine p_b hf (fun q4 e5 hf => ?_)
      refine r_cVi (pc := 94) (k := 27) (st := []) h [.inl q2] cv_X0_putOn wm_X6_277 (c_X0_putOn e5) ⟨rfl, rfl, Nat.le_of_ble_eq_true rfl, Nat.le_of_ble_eq_true rfl⟩ hshX_27 rfl rfl (Nat.le_of_ble_eq_true rfl) dX6_dressForChange_94 ?_
      refine r_pop (pc := 97) h dX6_dressForChange_97 ?_
      refine r_iinc (pc := 98) (v := (l6 + 1)) (L' := [some (.inr 0), some (.inl l1), none, none, some (.inl l4), none, some (.inl (l6 + 1))]) h dX6_dressForChange_98 rfl rfl (by decide) rfl ?_
      refine r_goto (pc := 101) (tgt := 73) h dX6_dressForChange_101 (by decide) ?_
      exact ih _ _ _ _ hf
set_option maxRecDepth 100000 in
set_option maxHeartbeats 4000000 in
theorem w_X6_dressForChange_30 {K : Kx} {E : Ex} (h : Ok shX K E RX6 cX6_dressForChange 7 rm_X6_dressForChange) {r : St} (hr : RetV shX K E cX6_dressForChange 7 r) : ∀ (n : Nat) (u : St) (l1 l2 l3 l4 l5 l6 : Int32), f_X6_dressForChange_30 n u l1 l2 l3 l4 l5 l6 = some r → Vd shX K E 7 30 [some (.inr 0), some (.inl l1), some (.inl l2), some (.inl l3), some (.inl l4), some (.inl l5), some (.inl l6)] [] u := by
  intro n
  induction n with
  | zero => intro u l1 l2 l3 l4 l5 l6 hf; cases hf
  | succ n ih =>
    intro u l1 l2 l3 l4 l5 l6 hf
    refine r_iload (pc := 30) h dX6_dressForChange_30 rfl ?_
    refine r_iload (pc := 32) h dX6_dressForChange_32 rfl ?_
    refine p_ite hf (fun hc6 hf => ?_) (fun hc6 hf => ?_)
    · refine r_icmp_ge (pc := 34) (tgt := 70) h dX6_dressForChange_34 (by decide) (fun _ => ?_) (fun q => absurd hc6 q)
      refine r_iconst (pc := 70) (v := 0) h dX6_dressForChange_70 (by decide) ?_
      refine r_istore (pc := 71) (L' := [some (.inr 0), some (.inl l1), some (.inl l2), some (.inl l3), some (.inl l4), some (.inl l5), some (.inl 0)]) h dX6_dressForChange_71 (by decide) rfl ?_
      refine r_le [some (.inr 0), some (.inl l1), none, none, some (.inl l4), none, some (.inl 0)] ⟨rfl, ⟨rfl, ⟨rfl, ⟨rfl, trivial⟩⟩⟩⟩ ?_
      exact w_X6_dressForChange_73 h hr FU _ _ _ _ hf
    · refine r_icmp_ge (pc := 34) (tgt := 70) h dX6_dressForChange_34 (by decide) (fun q => absurd q hc6) (fun _ => ?_)
      refine r_iload_n (pc := 37) h dX6_dressForChange_37 rfl ?_
      refine r_iload (pc := 38) h dX6_dressForChange_38 rfl ?_
      refine p_b hf (fun q7 e8 hf => ?_)
      refine r_cSi (pc := 40) (st := []) h [.inl l3, .inl l6] cs_X6_hasBit wm_X6_274 (c_X6_hasBit e8) ⟨rfl, rfl, Nat.le_of_ble_eq_true rfl, Nat.le_of_ble_eq_true rfl⟩ (Nat.le_of_ble_eq_true rfl) dX6_dressForChange_40 ?_
      refine p_ite hf (fun hc9 hf => ?_) (fun hc9 hf => ?_)
      · refine r_if_eq (pc := 43) (tgt := 64) h dX6_dressForChange_43 (by decide) (fun _ => ?_) (fun q => absurd hc9 q)
        refine r_iinc (pc := 64) (v := (l6 + 1)) (L' := [some (.inr 0), some (.inl l1), some (.inl l2), some (.inl l3), some (.inl l4), some (.inl l5), some (.inl (l6 + 1))]) h dX6_dressForChange_64 rfl rfl (by decide) rfl ?_
        refine r_goto (pc := 67) (tgt := 30) h dX6_dressForChange_67 (by decide) ?_
        exact ih _ _ _ _ _ _ _ hf
      · refine r_if_eq (pc := 43) (tgt := 64) h dX6_dressForChange_43 (by decide) (fun q => absurd q hc9) (fun _ => ?_)
        refine r_aload_n (pc := 46) h dX6_dressForChange_46 rfl ?_
        refine gf_X6_53 (pc := 47) h dX6_dressForChange_47 ?_
        refine r_aload_n (pc := 50) h dX6_dressForChange_50 rfl ?_
        refine gf_X6_19 (pc := 51) h dX6_dressForChange_51 ?_
        refine r_iload_n (pc := 54) h dX6_dressForChange_54 rfl ?_
        refine r_iload (pc := 55) h dX6_dressForChange_55 rfl ?_
        refine p_b hf (fun q10 e11 hf => ?_)
        refine r_cVi (pc := 57) (k := 3) (st := [.inr 27]) h [.inl l2, .inl l6] cv_X2_at wm_X6_108 (c_X2_at e11) ⟨rfl, rfl, Nat.le_of_ble_eq_true rfl, Nat.le_of_ble_eq_true rfl⟩ hshX_3 rfl rfl (Nat.le_of_ble_eq_true rfl) dX6_dressForChange_57 ?_
        refine p_b hf (fun q12 e13 hf => ?_)
        refine r_cVi (pc := 60) (k := 27) (st := []) h [.inl q10] cv_X0_putOn wm_X6_277 (c_X0_putOn e13) ⟨rfl, rfl, Nat.le_of_ble_eq_true rfl, Nat.le_of_ble_eq_true rfl⟩ hshX_27 rfl rfl (Nat.le_of_ble_eq_true rfl) dX6_dressForChange_60 ?_
        refine r_pop (pc := 63) h dX6_dressForChange_63 ?_
        refine r_iinc (pc := 64) (v := (l6 + 1)) (L' := [some (.inr 0), some (.inl l1), some (.inl l2), some (.inl l3), some (.inl l4), some (.inl l5), some (.inl (l6 + 1))]) h dX6_dressForChange_64 rfl rfl (by decide) rfl ?_
        refine r_goto (pc := 67) (tgt := 30) h dX6_dressForChange_67 (by decide) ?_
        exact ih _ _ _ _ _ _ _ hf
set_option maxRecDepth 100000 in
set_option maxHeartbeats 4000000 in
theorem w_X6_dressForChange_0 {K : Kx} {E : Ex} (h : Ok shX K E RX6 cX6_dressForChange 7 rm_X6_dressForChange) {r : St} (hr : RetV shX K E cX6_dressForChange 7 r) (u : St) (l1 l2 l3 : Int32) (hf : f_X6_dressForChange u l1 l2 l3 = some r) : Vd shX K E 7 0 [some (.inr 0), some (.inl l1), some (.inl l2), some (.inl l3), none, none, none] [] u := by
  refine r_aload_n (pc := 0) h dX6_dressForChange_0 rfl ?_
  refine gf_X6_19 (pc := 1) h dX6_dressForChange_1 ?_
  refine r_iload_n (pc := 4) h dX6_dressForChange_4 rfl ?_
  refine p_b hf (fun q14 e15 hf => ?_)
  refine r_cVi (pc := 5) (k := 3) (st := []) h [.inl l1] cv_X2_sizeOf wm_X6_99 (c_X2_sizeOf e15) ⟨rfl, rfl, Nat.le_of_ble_eq_true rfl, Nat.le_of_ble_eq_true rfl⟩ hshX_3 rfl rfl (Nat.le_of_ble_eq_true rfl) dX6_dressForChange_5 ?_
  refine r_istore (pc := 8) (L' := [some (.inr 0), some (.inl l1), some (.inl l2), some (.inl l3), some (.inl q14), none, none]) h dX6_dressForChange_8 (by decide) rfl ?_
  refine r_aload_n (pc := 10) h dX6_dressForChange_10 rfl ?_
  refine gf_X6_19 (pc := 11) h dX6_dressForChange_11 ?_
  refine r_iload_n (pc := 14) h dX6_dressForChange_14 rfl ?_
  refine p_b hf (fun q16 e17 hf => ?_)
  refine r_cVi (pc := 15) (k := 3) (st := []) h [.inl l2] cv_X2_sizeOf wm_X6_99 (c_X2_sizeOf e17) ⟨rfl, rfl, Nat.le_of_ble_eq_true rfl, Nat.le_of_ble_eq_true rfl⟩ hshX_3 rfl rfl (Nat.le_of_ble_eq_true rfl) dX6_dressForChange_15 ?_
  refine r_istore (pc := 18) (L' := [some (.inr 0), some (.inl l1), some (.inl l2), some (.inl l3), some (.inl q14), some (.inl q16), none]) h dX6_dressForChange_18 (by decide) rfl ?_
  refine r_aload_n (pc := 20) h dX6_dressForChange_20 rfl ?_
  refine gf_X6_53 (pc := 21) h dX6_dressForChange_21 ?_
  refine p_b hf (fun q18 e19 hf => ?_)
  refine r_cVv (pc := 24) (k := 27) (st := []) h [] cv_X0_undress wm_X6_271 (c_X0_undress e19) ⟨rfl, rfl, Nat.le_of_ble_eq_true rfl, Nat.le_of_ble_eq_true rfl⟩ hshX_27 rfl rfl (Nat.le_of_ble_eq_true rfl) dX6_dressForChange_24 ?_
  refine r_iconst (pc := 27) (v := 0) h dX6_dressForChange_27 (by decide) ?_
  refine r_istore (pc := 28) (L' := [some (.inr 0), some (.inl l1), some (.inl l2), some (.inl l3), some (.inl q14), some (.inl q16), some (.inl 0)]) h dX6_dressForChange_28 (by decide) rfl ?_
  exact w_X6_dressForChange_30 h hr FU _ _ _ _ _ _ _ hf
theorem c_X6_dressForChange {u : St} {l1 l2 l3 : Int32} {r : St} (hf : f_X6_dressForChange u l1 l2 l3 = some r) : CtV shX yX6_dressForChange cX6_dressForChange 7 none rm_X6_dressForChange [.inr 0, .inl l1, .inl l2, .inl l3] u r := ct_V (by decide +kernel) (Nat.le_of_ble_eq_true rfl) (fun K E h hr => w_X6_dressForChange_0 h hr _ _ _ _ hf)
set_option maxRecDepth 100000 in
set_option maxHeartbeats 4000000 in
theorem w_X0_liesOver_0 {K : Kx} {E : Ex} (h : Ok shX K E RX0 cX0_liesOver 3 rm_X0_liesOver) {r : Int32} {u : St} (hr : RetZ shX K E cX0_liesOver 3 r u) (l1 l2 : Int32) (hf : f_X0_liesOver u l1 l2 = some r) : Vd shX K E 3 0 [some (.inr 27), some (.inl l1), some (.inl l2)] [] u := by
  refine r_aload_n (pc := 0) h dX0_liesOver_0 rfl ?_
  refine r_iload_n (pc := 1) h dX0_liesOver_1 rfl ?_
  refine p_b hf (fun q1 e2 hf => ?_)
  refine r_cVi (pc := 2) (k := 27) (st := []) h [.inl l1] cv_X0_hasOn wm_X0_35 (c_X0_hasOn e2) ⟨rfl, rfl, Nat.le_of_ble_eq_true rfl, Nat.le_of_ble_eq_true rfl⟩ hshX_27 rfl rfl (Nat.le_of_ble_eq_true rfl) dX0_liesOver_2 ?_
  refine p_ite hf (fun hc3 hf => ?_) (fun hc3 hf => ?_)
  · refine r_if_eq (pc := 5) (tgt := 47) h dX0_liesOver_5 (by decide) (fun _ => ?_) (fun q => absurd hc3 q)
    refine r_iconst (pc := 47) (v := 0) h dX0_liesOver_47 (by decide) ?_
    have hf := Option.some.inj hf
    subst hf
    exact hr 48 _ dX0_liesOver_48 z_0
  · refine r_if_eq (pc := 5) (tgt := 47) h dX0_liesOver_5 (by decide) (fun q => absurd q hc3) (fun _ => ?_)
    refine r_aload_n (pc := 8) h dX0_liesOver_8 rfl ?_
    refine r_iload_n (pc := 9) h dX0_liesOver_9 rfl ?_
    refine p_b hf (fun q4 e5 hf => ?_)
    refine r_cVi (pc := 10) (k := 27) (st := []) h [.inl l2] cv_X0_hasOn wm_X0_35 (c_X0_hasOn e5) ⟨rfl, rfl, Nat.le_of_ble_eq_true rfl, Nat.le_of_ble_eq_true rfl⟩ hshX_27 rfl rfl (Nat.le_of_ble_eq_true rfl) dX0_liesOver_10 ?_
    refine p_ite hf (fun hc6 hf => ?_) (fun hc6 hf => ?_)
    · refine r_if_eq (pc := 13) (tgt := 47) h dX0_liesOver_13 (by decide) (fun _ => ?_) (fun q => absurd hc6 q)
      refine r_iconst (pc := 47) (v := 0) h dX0_liesOver_47 (by decide) ?_
      have hf := Option.some.inj hf
      subst hf
      exact hr 48 _ dX0_liesOver_48 z_0
    · refine r_if_eq (pc := 13) (tgt := 47) h dX0_liesOver_13 (by decide) (fun q => absurd q hc6) (fun _ => ?_)
      refine r_aload_n (pc := 16) h dX0_liesOver_16 rfl ?_
      refine gf_X0_9 (pc := 17) h dX0_liesOver_17 ?_
      refine r_iload_n (pc := 20) h dX0_liesOver_20 rfl ?_
      refine p_g hf (fun hi7 hf => ?_)
      refine r_iald (pc := 21) (k := 28) (v := (u 28 l1.toNatClampNeg)) h hshX_28 hi7 rfl dX0_liesOver_21 ?_
      refine r_aload_n (pc := 22) h dX0_liesOver_22 rfl ?_
      refine gf_X0_9 (pc := 23) h dX0_liesOver_23 ?_
      refine r_iload_n (pc := 26) h dX0_liesOver_26 rfl ?_
      refine p_g hf (fun hi8 hf => ?_)
      refine r_iald (pc := 27) (k := 28) (v := (u 28 l2.toNatClampNeg)) h hshX_28 hi8 rfl dX0_liesOver_27 ?_
      refine p_ite hf (fun hc9 hf => ?_) (fun hc9 hf => ?_)
      · refine r_icmp_le (pc := 28) (tgt := 47) h dX0_liesOver_28 (by decide) (fun _ => ?_) (fun q => absurd hc9 q)
        refine r_iconst (pc := 47) (v := 0) h dX0_liesOver_47 (by decide) ?_
        have hf := Option.some.inj hf
        subst hf
        exact hr 48 _ dX0_liesOver_48 z_0
      · refine r_icmp_le (pc := 28) (tgt := 47) h dX0_liesOver_28 (by decide) (fun q => absurd q hc9) (fun _ => ?_)
        refine r_aload_n (pc := 31) h dX0_liesOver_31 rfl ?_
        refine gf_X0_15 (pc := 32) h dX0_liesOver_32 ?_
        refine r_iload_n (pc := 35) h dX0_liesOver_35 rfl ?_
        refine r_iload_n (pc := 36) h dX0_liesOver_36 rfl ?_
        refine p_b hf (fun q10 e11 hf => ?_)
        refine r_cVi (pc := 37) (k := 1) (st := []) h [.inl l1, .inl l2] cv_X5_haveOnePlace wm_X0_38 (c_X5_haveOnePlace e11) ⟨rfl, rfl, Nat.le_of_ble_eq_true rfl, Nat.le_of_ble_eq_true rfl⟩ hshX_1 rfl rfl (Nat.le_of_ble_eq_true rfl) dX0_liesOver_37 ?_
        refine p_ite hf (fun hc12 hf => ?_) (fun hc12 hf => ?_)
        · refine r_if_eq (pc := 40) (tgt := 47) h dX0_liesOver_40 (by decide) (fun _ => ?_) (fun q => absurd hc12 q)
          refine r_iconst (pc := 47) (v := 0) h dX0_liesOver_47 (by decide) ?_
          have hf := Option.some.inj hf
          subst hf
          exact hr 48 _ dX0_liesOver_48 z_0
        · refine r_if_eq (pc := 40) (tgt := 47) h dX0_liesOver_40 (by decide) (fun q => absurd q hc12) (fun _ => ?_)
          refine r_iconst (pc := 43) (v := 1) h dX0_liesOver_43 (by decide) ?_
          refine r_goto (pc := 44) (tgt := 48) h dX0_liesOver_44 (by decide) ?_
          have hf := Option.some.inj hf
          subst hf
          exact hr 48 _ dX0_liesOver_48 z_1
theorem c_X0_liesOver {u : St} {l1 l2 : Int32} {r : Int32} (hf : f_X0_liesOver u l1 l2 = some r) : CtI shX yX0_liesOver cX0_liesOver 3 (some .boolean) rm_X0_liesOver [.inr 27, .inl l1, .inl l2] u r u := ct_Z (by decide +kernel) (Nat.le_of_ble_eq_true rfl) (fun K E h hr => w_X0_liesOver_0 h hr _ _ hf)
set_option maxRecDepth 100000 in
set_option maxHeartbeats 4000000 in
theorem w_X0_takeOff_12 {K : Kx} {E : Ex} (h : Ok shX K E RX0 cX0_takeOff 3 rm_X0_takeOff) {r : Int32 × St} (hr : RetZ shX K E cX0_takeOff 3 r.1 r.2) : ∀ (n : Nat) (u : St) (l1 l2 : Int32), f_X0_takeOff_12 n u l1 l2 = some r → Vd shX K E 3 12 [some (.inr 27), some (.inl l1), some (.inl l2)] [] u := by
  intro n
  induction n with
  | zero => intro u l1 l2 hf; cases hf
  | succ n ih =>
    intro u l1 l2 hf
    refine r_iload_n (pc := 12) h dX0_takeOff_12 rfl ?_
    refine r_bipush (pc := 13) (v := 32) h dX0_takeOff_13 (by decide) ?_
    refine p_ite hf (fun hc1 hf => ?_) (fun hc1 hf => ?_)
    · refine r_icmp_ge (pc := 15) (tgt := 35) h dX0_takeOff_15 (by decide) (fun _ => ?_) (fun q => absurd hc1 q)
      refine r_aload_n (pc := 35) h dX0_takeOff_35 rfl ?_
      refine gf_X0_9 (pc := 36) h dX0_takeOff_36 ?_
      refine r_iload_n (pc := 39) h dX0_takeOff_39 rfl ?_
      refine r_iconst (pc := 40) (v := 0) h dX0_takeOff_40 (by decide) ?_
      refine p_g hf (fun hi2 hf => ?_)
      refine r_iast (pc := 41) (k := 28) h hshX_28 hi2 dX0_takeOff_41 ?_
      refine r_iconst (pc := 42) (v := 1) h dX0_takeOff_42 (by decide) ?_
      have hf := Option.some.inj hf
      subst hf
      exact hr 43 _ dX0_takeOff_43 z_1
    · refine r_icmp_ge (pc := 15) (tgt := 35) h dX0_takeOff_15 (by decide) (fun q => absurd q hc1) (fun _ => ?_)
      refine r_aload_n (pc := 18) h dX0_takeOff_18 rfl ?_
      refine r_iload_n (pc := 19) h dX0_takeOff_19 rfl ?_
      refine r_iload_n (pc := 20) h dX0_takeOff_20 rfl ?_
      refine p_b hf (fun q3 e4 hf => ?_)
      refine r_cVi (pc := 21) (k := 27) (st := []) h [.inl l2, .inl l1] cv_X0_liesOver wm_X0_48 (c_X0_liesOver e4) ⟨rfl, rfl, Nat.le_of_ble_eq_true rfl, Nat.le_of_ble_eq_true rfl⟩ hshX_27 rfl rfl (Nat.le_of_ble_eq_true rfl) dX0_takeOff_21 ?_
      refine p_ite hf (fun hc5 hf => ?_) (fun hc5 hf => ?_)
      · refine r_if_eq (pc := 24) (tgt := 29) h dX0_takeOff_24 (by decide) (fun _ => ?_) (fun q => absurd hc5 q)
        refine r_iinc (pc := 29) (v := (l2 + 1)) (L' := [some (.inr 27), some (.inl l1), some (.inl (l2 + 1))]) h dX0_takeOff_29 rfl rfl (by decide) rfl ?_
        refine r_goto (pc := 32) (tgt := 12) h dX0_takeOff_32 (by decide) ?_
        exact ih _ _ _ hf
      · refine r_if_eq (pc := 24) (tgt := 29) h dX0_takeOff_24 (by decide) (fun q => absurd q hc5) (fun _ => ?_)
        refine r_iconst (pc := 27) (v := 0) h dX0_takeOff_27 (by decide) ?_
        have hf := Option.some.inj hf
        subst hf
        exact hr 28 _ dX0_takeOff_28 z_0
set_option maxRecDepth 100000 in
set_option maxHeartbeats 4000000 in
theorem w_X0_takeOff_0 {K : Kx} {E : Ex} (h : Ok shX K E RX0 cX0_takeOff 3 rm_X0_takeOff) {r : Int32 × St} (hr : RetZ shX K E cX0_takeOff 3 r.1 r.2) (u : St) (l1 : Int32) (hf : f_X0_takeOff u l1 = some r) : Vd shX K E 3 0 [some (.inr 27), some (.inl l1), none] [] u := by
  refine r_aload_n (pc := 0) h dX0_takeOff_0 rfl ?_
  refine r_iload_n (pc := 1) h dX0_takeOff_1 rfl ?_
  refine p_b hf (fun q6 e7 hf => ?_)
  refine r_cVi (pc := 2) (k := 27) (st := []) h [.inl l1] cv_X0_hasOn wm_X0_35 (c_X0_hasOn e7) ⟨rfl, rfl, Nat.le_of_ble_eq_true rfl, Nat.le_of_ble_eq_true rfl⟩ hshX_27 rfl rfl (Nat.le_of_ble_eq_true rfl) dX0_takeOff_2 ?_
  refine p_ite hf (fun hc8 hf => ?_) (fun hc8 hf => ?_)
  · refine r_if_ne (pc := 5) (tgt := 10) h dX0_takeOff_5 (by decide) (fun q => absurd hc8 q) (fun _ => ?_)
    refine r_iconst (pc := 8) (v := 0) h dX0_takeOff_8 (by decide) ?_
    have hf := Option.some.inj hf
    subst hf
    exact hr 9 _ dX0_takeOff_9 z_0
  · refine r_if_ne (pc := 5) (tgt := 10) h dX0_takeOff_5 (by decide) (fun _ => ?_) (fun q => absurd q hc8)
    refine r_iconst (pc := 10) (v := 0) h dX0_takeOff_10 (by decide) ?_
    refine r_istore_n (pc := 11) (L' := [some (.inr 27), some (.inl l1), some (.inl 0)]) h dX0_takeOff_11 (by decide) rfl ?_
    exact w_X0_takeOff_12 h hr FU _ _ _ hf
theorem c_X0_takeOff {u : St} {l1 : Int32} {r : Int32 × St} (hf : f_X0_takeOff u l1 = some r) : CtI shX yX0_takeOff cX0_takeOff 3 (some .boolean) rm_X0_takeOff [.inr 27, .inl l1] u r.1 r.2 := ct_Z (by decide +kernel) (Nat.le_of_ble_eq_true rfl) (fun K E h hr => w_X0_takeOff_0 h hr _ _ hf)
set_option maxRecDepth 100000 in
set_option maxHeartbeats 4000000 in
theorem w_X0_handle_0 {K : Kx} {E : Ex} (h : Ok shX K E RX0 cX0_handle 2 rm_X0_handle) {r : Int32 × St} (hr : RetZ shX K E cX0_handle 2 r.1 r.2) (u : St) (l1 : Int32) (hf : f_X0_handle u l1 = some r) : Vd shX K E 2 0 [some (.inr 27), some (.inl l1)] [] u := by
  refine r_iload_n (pc := 0) h dX0_handle_0 rfl ?_
  refine p_ite hf (fun hc1 hf => ?_) (fun hc1 hf => ?_)
  · refine r_if_lt (pc := 1) (tgt := 12) h dX0_handle_1 (by decide) (fun _ => ?_) (fun q => absurd hc1 q)
    refine r_aload_n (pc := 12) h dX0_handle_12 rfl ?_
    refine r_iconst (pc := 13) (v := (-1)) h dX0_handle_13 (by decide) ?_
    refine r_iload_n (pc := 14) h dX0_handle_14 rfl ?_
    refine r_isub (pc := 15) h dX0_handle_15 ?_
    refine p_b hf (fun q2 e3 hf => ?_)
    refine r_cVi (pc := 16) (k := 27) (st := []) h [.inl ((-1) - l1)] cv_X0_takeOff wm_X0_45 (c_X0_takeOff e3) ⟨rfl, rfl, Nat.le_of_ble_eq_true rfl, Nat.le_of_ble_eq_true rfl⟩ hshX_27 rfl rfl (Nat.le_of_ble_eq_true rfl) dX0_handle_16 ?_
    refine p_gp hf (fun hc4 hf => ?_)
    have hf := Option.some.inj hf
    subst hf
    exact hr 19 _ dX0_handle_19 (z01 hc4)
  · refine r_if_lt (pc := 1) (tgt := 12) h dX0_handle_1 (by decide) (fun q => absurd q hc1) (fun _ => ?_)
    refine r_aload_n (pc := 4) h dX0_handle_4 rfl ?_
    refine r_iload_n (pc := 5) h dX0_handle_5 rfl ?_
    refine p_b hf (fun q5 e6 hf => ?_)
    refine r_cVi (pc := 6) (k := 27) (st := []) h [.inl l1] cv_X0_putOn wm_X0_42 (c_X0_putOn e6) ⟨rfl, rfl, Nat.le_of_ble_eq_true rfl, Nat.le_of_ble_eq_true rfl⟩ hshX_27 rfl rfl (Nat.le_of_ble_eq_true rfl) dX0_handle_6 ?_
    refine r_goto (pc := 9) (tgt := 19) h dX0_handle_9 (by decide) ?_
    refine p_gp hf (fun hc7 hf => ?_)
    have hf := Option.some.inj hf
    subst hf
    exact hr 19 _ dX0_handle_19 (z01 hc7)
theorem c_X0_handle {u : St} {l1 : Int32} {r : Int32 × St} (hf : f_X0_handle u l1 = some r) : CtI shX yX0_handle cX0_handle 2 (some .boolean) rm_X0_handle [.inr 27, .inl l1] u r.1 r.2 := ct_Z (by decide +kernel) (Nat.le_of_ble_eq_true rfl) (fun K E h hr => w_X0_handle_0 h hr _ _ hf)
set_option maxRecDepth 100000 in
set_option maxHeartbeats 4000000 in
theorem w_X0_countWorn_4 {K : Kx} {E : Ex} (h : Ok shX K E RX0 cX0_countWorn 3 rm_X0_countWorn) {r : Int32} {u : St} (hr : RetI shX K E cX0_countWorn 3 r u) : ∀ (n : Nat) (l1 l2 : Int32), f_X0_countWorn_4 u n l1 l2 = some r → Vd shX K E 3 4 [some (.inr 27), some (.inl l1), some (.inl l2)] [] u := by
  intro n
  induction n with
  | zero => intro l1 l2 hf; cases hf
  | succ n ih =>
    intro l1 l2 hf
    refine r_iload_n (pc := 4) h dX0_countWorn_4 rfl ?_
    refine r_bipush (pc := 5) (v := 32) h dX0_countWorn_5 (by decide) ?_
    refine p_ite hf (fun hc1 hf => ?_) (fun hc1 hf => ?_)
    · refine r_icmp_ge (pc := 7) (tgt := 28) h dX0_countWorn_7 (by decide) (fun _ => ?_) (fun q => absurd hc1 q)
      refine r_iload_n (pc := 28) h dX0_countWorn_28 rfl ?_
      have hf := Option.some.inj hf
      subst hf
      exact hr 29 _ dX0_countWorn_29
    · refine r_icmp_ge (pc := 7) (tgt := 28) h dX0_countWorn_7 (by decide) (fun q => absurd q hc1) (fun _ => ?_)
      refine r_aload_n (pc := 10) h dX0_countWorn_10 rfl ?_
      refine gf_X0_9 (pc := 11) h dX0_countWorn_11 ?_
      refine r_iload_n (pc := 14) h dX0_countWorn_14 rfl ?_
      refine p_g hf (fun hi2 hf => ?_)
      refine r_iald (pc := 15) (k := 28) (v := (u 28 l2.toNatClampNeg)) h hshX_28 hi2 rfl dX0_countWorn_15 ?_
      refine p_ite hf (fun hc3 hf => ?_) (fun hc3 hf => ?_)
      · refine r_if_le (pc := 16) (tgt := 22) h dX0_countWorn_16 (by decide) (fun _ => ?_) (fun q => absurd hc3 q)
        refine r_iinc (pc := 22) (v := (l2 + 1)) (L' := [some (.inr 27), some (.inl l1), some (.inl (l2 + 1))]) h dX0_countWorn_22 rfl rfl (by decide) rfl ?_
        refine r_goto (pc := 25) (tgt := 4) h dX0_countWorn_25 (by decide) ?_
        exact ih _ _ hf
      · refine r_if_le (pc := 16) (tgt := 22) h dX0_countWorn_16 (by decide) (fun q => absurd q hc3) (fun _ => ?_)
        refine r_iinc (pc := 19) (v := (l1 + 1)) (L' := [some (.inr 27), some (.inl (l1 + 1)), some (.inl l2)]) h dX0_countWorn_19 rfl rfl (by decide) rfl ?_
        refine r_iinc (pc := 22) (v := (l2 + 1)) (L' := [some (.inr 27), some (.inl (l1 + 1)), some (.inl (l2 + 1))]) h dX0_countWorn_22 rfl rfl (by decide) rfl ?_
        refine r_goto (pc := 25) (tgt := 4) h dX0_countWorn_25 (by decide) ?_
        exact ih _ _ hf
set_option maxRecDepth 100000 in
set_option maxHeartbeats 4000000 in
theorem w_X0_countWorn_0 {K : Kx} {E : Ex} (h : Ok shX K E RX0 cX0_countWorn 3 rm_X0_countWorn) {r : Int32} {u : St} (hr : RetI shX K E cX0_countWorn 3 r u)  (hf : f_X0_countWorn u = some r) : Vd shX K E 3 0 [some (.inr 27), none, none] [] u := by
  refine r_iconst (pc := 0) (v := 0) h dX0_countWorn_0 (by decide) ?_
  refine r_istore_n (pc := 1) (L' := [some (.inr 27), some (.inl 0), none]) h dX0_countWorn_1 (by decide) rfl ?_
  refine r_iconst (pc := 2) (v := 0) h dX0_countWorn_2 (by decide) ?_
  refine r_istore_n (pc := 3) (L' := [some (.inr 27), some (.inl 0), some (.inl 0)]) h dX0_countWorn_3 (by decide) rfl ?_
  exact w_X0_countWorn_4 h hr FU _ _ hf
theorem c_X0_countWorn {u : St} {r : Int32} (hf : f_X0_countWorn u = some r) : CtI shX yX0_countWorn cX0_countWorn 3 (some .int) rm_X0_countWorn [.inr 27] u r u := ct_I (by decide +kernel) (Nat.le_of_ble_eq_true rfl) (fun K E h hr => w_X0_countWorn_0 h hr  hf)
set_option maxRecDepth 100000 in
set_option maxHeartbeats 4000000 in
theorem w_X6_isJustWorn_57 {K : Kx} {E : Ex} (h : Ok shX K E RX6 cX6_isJustWorn 6 rm_X6_isJustWorn) {r : Int32} {u : St} (hr : RetZ shX K E cX6_isJustWorn 6 r u) {k24 : Int32 → Int32 → Int32 → Option (Int32)} (hk24 : ∀ (l1 l2 l3 : Int32), k24 l1 l2 l3 = some r → Vd shX K E 6 24 [some (.inr 0), some (.inl l1), some (.inl l2), some (.inl l3), none, none] [] u) : ∀ (n : Nat) (l1 l2 l3 l4 l5 : Int32), f_X6_isJustWorn_57 k24 u n l1 l2 l3 l4 l5 = some r → Vd shX K E 6 57 [some (.inr 0), some (.inl l1), some (.inl l2), some (.inl l3), some (.inl l4), some (.inl l5)] [] u := by
  intro n
  induction n with
  | zero => intro l1 l2 l3 l4 l5 hf; cases hf
  | succ n ih =>
    intro l1 l2 l3 l4 l5 hf
    refine r_iload (pc := 57) h dX6_isJustWorn_57 rfl ?_
    refine r_iload_n (pc := 59) h dX6_isJustWorn_59 rfl ?_
    refine p_ite hf (fun hc1 hf => ?_) (fun hc1 hf => ?_)
    · refine r_icmp_ge (pc := 60) (tgt := 93) h dX6_isJustWorn_60 (by decide) (fun _ => ?_) (fun q => absurd hc1 q)
      refine r_iinc (pc := 93) (v := (l3 + 1)) (L' := [some (.inr 0), some (.inl l1), some (.inl l2), some (.inl (l3 + 1)), some (.inl l4), some (.inl l5)]) h dX6_isJustWorn_93 rfl rfl (by decide) rfl ?_
      refine r_goto (pc := 96) (tgt := 24) h dX6_isJustWorn_96 (by decide) ?_
      refine r_le [some (.inr 0), some (.inl l1), some (.inl l2), some (.inl (l3 + 1)), none, none] ⟨rfl, ⟨rfl, ⟨rfl, ⟨rfl, trivial⟩⟩⟩⟩ ?_
      exact hk24 _ _ _ hf
    · refine r_icmp_ge (pc := 60) (tgt := 93) h dX6_isJustWorn_60 (by decide) (fun q => absurd q hc1) (fun _ => ?_)
      refine r_aload_n (pc := 63) h dX6_isJustWorn_63 rfl ?_
      refine gf_X6_53 (pc := 64) h dX6_isJustWorn_64 ?_
      refine r_aload_n (pc := 67) h dX6_isJustWorn_67 rfl ?_
      refine gf_X6_19 (pc := 68) h dX6_isJustWorn_68 ?_
      refine r_iload_n (pc := 71) h dX6_isJustWorn_71 rfl ?_
      refine r_iload (pc := 72) h dX6_isJustWorn_72 rfl ?_
      refine p_b hf (fun q2 e3 hf => ?_)
      refine r_cVi (pc := 74) (k := 3) (st := [.inr 27]) h [.inl l1, .inl l5] cv_X2_at wm_X6_108 (c_X2_at e3) ⟨rfl, rfl, Nat.le_of_ble_eq_true rfl, Nat.le_of_ble_eq_true rfl⟩ hshX_3 rfl rfl (Nat.le_of_ble_eq_true rfl) dX6_isJustWorn_74 ?_
      refine r_iload (pc := 77) h dX6_isJustWorn_77 rfl ?_
      refine p_b hf (fun q4 e5 hf => ?_)
      refine r_cVi (pc := 79) (k := 27) (st := []) h [.inl q2, .inl l4] cv_X0_liesOver wm_X6_286 (c_X0_liesOver e5) ⟨rfl, rfl, Nat.le_of_ble_eq_true rfl, Nat.le_of_ble_eq_true rfl⟩ hshX_27 rfl rfl (Nat.le_of_ble_eq_true rfl) dX6_isJustWorn_79 ?_
      refine p_ite hf (fun hc6 hf => ?_) (fun hc6 hf => ?_)
      · refine r_if_eq (pc := 82) (tgt := 87) h dX6_isJustWorn_82 (by decide) (fun _ => ?_) (fun q => absurd hc6 q)
        refine r_iinc (pc := 87) (v := (l5 + 1)) (L' := [some (.inr 0), some (.inl l1), some (.inl l2), some (.inl l3), some (.inl l4), some (.inl (l5 + 1))]) h dX6_isJustWorn_87 rfl rfl (by decide) rfl ?_
        refine r_goto (pc := 90) (tgt := 57) h dX6_isJustWorn_90 (by decide) ?_
        exact ih _ _ _ _ _ hf
      · refine r_if_eq (pc := 82) (tgt := 87) h dX6_isJustWorn_82 (by decide) (fun q => absurd q hc6) (fun _ => ?_)
        refine r_iconst (pc := 85) (v := 0) h dX6_isJustWorn_85 (by decide) ?_
        have hf := Option.some.inj hf
        subst hf
        exact hr 86 _ dX6_isJustWorn_86 z_0
set_option maxRecDepth 100000 in
set_option maxHeartbeats 4000000 in
theorem w_X6_isJustWorn_24 {K : Kx} {E : Ex} (h : Ok shX K E RX6 cX6_isJustWorn 6 rm_X6_isJustWorn) {r : Int32} {u : St} (hr : RetZ shX K E cX6_isJustWorn 6 r u) : ∀ (n : Nat) (l1 l2 l3 : Int32), f_X6_isJustWorn_24 u n l1 l2 l3 = some r → Vd shX K E 6 24 [some (.inr 0), some (.inl l1), some (.inl l2), some (.inl l3), none, none] [] u := by
  intro n
  induction n with
  | zero => intro l1 l2 l3 hf; cases hf
  | succ n ih =>
    intro l1 l2 l3 hf
    refine r_iload_n (pc := 24) h dX6_isJustWorn_24 rfl ?_
    refine r_iload_n (pc := 25) h dX6_isJustWorn_25 rfl ?_
    refine p_ite hf (fun hc7 hf => ?_) (fun hc7 hf => ?_)
    · refine r_icmp_ge (pc := 26) (tgt := 99) h dX6_isJustWorn_26 (by decide) (fun _ => ?_) (fun q => absurd hc7 q)
      refine r_iconst (pc := 99) (v := 1) h dX6_isJustWorn_99 (by decide) ?_
      have hf := Option.some.inj hf
      subst hf
      exact hr 100 _ dX6_isJustWorn_100 z_1
    · refine r_icmp_ge (pc := 26) (tgt := 99) h dX6_isJustWorn_26 (by decide) (fun q => absurd q hc7) (fun _ => ?_)
      refine r_aload_n (pc := 29) h dX6_isJustWorn_29 rfl ?_
      refine gf_X6_19 (pc := 30) h dX6_isJustWorn_30 ?_
      refine r_iload_n (pc := 33) h dX6_isJustWorn_33 rfl ?_
      refine r_iload_n (pc := 34) h dX6_isJustWorn_34 rfl ?_
      refine p_b hf (fun q8 e9 hf => ?_)
      refine r_cVi (pc := 35) (k := 3) (st := []) h [.inl l1, .inl l3] cv_X2_at wm_X6_108 (c_X2_at e9) ⟨rfl, rfl, Nat.le_of_ble_eq_true rfl, Nat.le_of_ble_eq_true rfl⟩ hshX_3 rfl rfl (Nat.le_of_ble_eq_true rfl) dX6_isJustWorn_35 ?_
      refine r_istore (pc := 38) (L' := [some (.inr 0), some (.inl l1), some (.inl l2), some (.inl l3), some (.inl q8), none]) h dX6_isJustWorn_38 (by decide) rfl ?_
      refine r_aload_n (pc := 40) h dX6_isJustWorn_40 rfl ?_
      refine gf_X6_53 (pc := 41) h dX6_isJustWorn_41 ?_
      refine r_iload (pc := 44) h dX6_isJustWorn_44 rfl ?_
      refine p_b hf (fun q10 e11 hf => ?_)
      refine r_cVi (pc := 46) (k := 27) (st := []) h [.inl q8] cv_X0_hasOn wm_X6_283 (c_X0_hasOn e11) ⟨rfl, rfl, Nat.le_of_ble_eq_true rfl, Nat.le_of_ble_eq_true rfl⟩ hshX_27 rfl rfl (Nat.le_of_ble_eq_true rfl) dX6_isJustWorn_46 ?_
      refine p_ite hf (fun hc12 hf => ?_) (fun hc12 hf => ?_)
      · refine r_if_ne (pc := 49) (tgt := 54) h dX6_isJustWorn_49 (by decide) (fun q => absurd hc12 q) (fun _ => ?_)
        refine r_iconst (pc := 52) (v := 0) h dX6_isJustWorn_52 (by decide) ?_
        have hf := Option.some.inj hf
        subst hf
        exact hr 53 _ dX6_isJustWorn_53 z_0
      · refine r_if_ne (pc := 49) (tgt := 54) h dX6_isJustWorn_49 (by decide) (fun _ => ?_) (fun q => absurd q hc12)
        refine r_iconst (pc := 54) (v := 0) h dX6_isJustWorn_54 (by decide) ?_
        refine r_istore (pc := 55) (L' := [some (.inr 0), some (.inl l1), some (.inl l2), some (.inl l3), some (.inl q8), some (.inl 0)]) h dX6_isJustWorn_55 (by decide) rfl ?_
        exact w_X6_isJustWorn_57 h hr (fun x0 x1 x2 e9 => ih x0 x1 x2 e9) FU _ _ _ _ _ hf
set_option maxRecDepth 100000 in
set_option maxHeartbeats 4000000 in
theorem w_X6_isJustWorn_0 {K : Kx} {E : Ex} (h : Ok shX K E RX6 cX6_isJustWorn 6 rm_X6_isJustWorn) {r : Int32} {u : St} (hr : RetZ shX K E cX6_isJustWorn 6 r u) (l1 : Int32) (hf : f_X6_isJustWorn u l1 = some r) : Vd shX K E 6 0 [some (.inr 0), some (.inl l1), none, none, none, none] [] u := by
  refine r_aload_n (pc := 0) h dX6_isJustWorn_0 rfl ?_
  refine gf_X6_19 (pc := 1) h dX6_isJustWorn_1 ?_
  refine r_iload_n (pc := 4) h dX6_isJustWorn_4 rfl ?_
  refine p_b hf (fun q13 e14 hf => ?_)
  refine r_cVi (pc := 5) (k := 3) (st := []) h [.inl l1] cv_X2_sizeOf wm_X6_99 (c_X2_sizeOf e14) ⟨rfl, rfl, Nat.le_of_ble_eq_true rfl, Nat.le_of_ble_eq_true rfl⟩ hshX_3 rfl rfl (Nat.le_of_ble_eq_true rfl) dX6_isJustWorn_5 ?_
  refine r_istore_n (pc := 8) (L' := [some (.inr 0), some (.inl l1), some (.inl q13), none, none, none]) h dX6_isJustWorn_8 (by decide) rfl ?_
  refine r_aload_n (pc := 9) h dX6_isJustWorn_9 rfl ?_
  refine gf_X6_53 (pc := 10) h dX6_isJustWorn_10 ?_
  refine p_b hf (fun q15 e16 hf => ?_)
  refine r_cVi (pc := 13) (k := 27) (st := []) h [] cv_X0_countWorn wm_X6_280 (c_X0_countWorn e16) ⟨rfl, rfl, Nat.le_of_ble_eq_true rfl, Nat.le_of_ble_eq_true rfl⟩ hshX_27 rfl rfl (Nat.le_of_ble_eq_true rfl) dX6_isJustWorn_13 ?_
  refine r_iload_n (pc := 16) h dX6_isJustWorn_16 rfl ?_
  refine p_ite hf (fun hc17 hf => ?_) (fun hc17 hf => ?_)
  · refine r_icmp_eq (pc := 17) (tgt := 22) h dX6_isJustWorn_17 (by decide) (fun _ => ?_) (fun q => absurd hc17 q)
    refine r_iconst (pc := 22) (v := 0) h dX6_isJustWorn_22 (by decide) ?_
    refine r_istore_n (pc := 23) (L' := [some (.inr 0), some (.inl l1), some (.inl q13), some (.inl 0), none, none]) h dX6_isJustWorn_23 (by decide) rfl ?_
    exact w_X6_isJustWorn_24 h hr FU _ _ _ hf
  · refine r_icmp_eq (pc := 17) (tgt := 22) h dX6_isJustWorn_17 (by decide) (fun q => absurd q hc17) (fun _ => ?_)
    refine r_iconst (pc := 20) (v := 0) h dX6_isJustWorn_20 (by decide) ?_
    have hf := Option.some.inj hf
    subst hf
    exact hr 21 _ dX6_isJustWorn_21 z_0
theorem c_X6_isJustWorn {u : St} {l1 : Int32} {r : Int32} (hf : f_X6_isJustWorn u l1 = some r) : CtI shX yX6_isJustWorn cX6_isJustWorn 6 (some .boolean) rm_X6_isJustWorn [.inr 0, .inl l1] u r u := ct_Z (by decide +kernel) (Nat.le_of_ble_eq_true rfl) (fun K E h hr => w_X6_isJustWorn_0 h hr _ hf)
set_option maxRecDepth 100000 in
set_option maxHeartbeats 4000000 in
theorem w_X6_check_95 {K : Kx} {E : Ex} (h : Ok shX K E RX6 cX6_check 6 rm_X6_check) {r : Int32 × St} (hr : RetI shX K E cX6_check 6 r.1 r.2) (u : St) (l2 : Int32) (hf : f_X6_check_95 u l2 = some r) : Vd shX K E 6 95 [some (.inr 0), none, some (.inl l2), none, none, none] [] u := by
  refine r_aload_n (pc := 95) h dX6_check_95 rfl ?_
  refine r_iload_n (pc := 96) h dX6_check_96 rfl ?_
  refine p_b hf (fun q1 e2 hf => ?_)
  refine r_cVi (pc := 97) (k := 0) (st := []) h [.inl l2] cv_X6_isJustWorn wm_X6_207 (c_X6_isJustWorn e2) ⟨rfl, rfl, Nat.le_of_ble_eq_true rfl, Nat.le_of_ble_eq_true rfl⟩ hshX_0 rfl rfl (Nat.le_of_ble_eq_true rfl) dX6_check_97 ?_
  refine p_ite hf (fun hc3 hf => ?_) (fun hc3 hf => ?_)
  · refine r_if_eq (pc := 100) (tgt := 107) h dX6_check_100 (by decide) (fun _ => ?_) (fun q => absurd hc3 q)
    refine r_bipush (pc := 107) (v := 99) h dX6_check_107 (by decide) ?_
    have hf := Option.some.inj hf
    subst hf
    exact hr 109 _ dX6_check_109
  · refine r_if_eq (pc := 100) (tgt := 107) h dX6_check_100 (by decide) (fun q => absurd q hc3) (fun _ => ?_)
    refine r_iconst (pc := 103) (v := 0) h dX6_check_103 (by decide) ?_
    refine r_goto (pc := 104) (tgt := 109) h dX6_check_104 (by decide) ?_
    have hf := Option.some.inj hf
    subst hf
    exact hr 109 _ dX6_check_109
set_option maxRecDepth 100000 in
set_option maxHeartbeats 4000000 in
theorem w_X6_check_53 {K : Kx} {E : Ex} (h : Ok shX K E RX6 cX6_check 6 rm_X6_check) {r : Int32 × St} (hr : RetI shX K E cX6_check 6 r.1 r.2) : ∀ (n : Nat) (u : St) (l2 l4 l5 : Int32), f_X6_check_53 n u l2 l4 l5 = some r → Vd shX K E 6 53 [some (.inr 0), none, some (.inl l2), none, some (.inl l4), some (.inl l5)] [] u := by
  intro n
  induction n with
  | zero => intro u l2 l4 l5 hf; cases hf
  | succ n ih =>
    intro u l2 l4 l5 hf
    refine r_iload (pc := 53) h dX6_check_53 rfl ?_
    refine r_iload (pc := 55) h dX6_check_55 rfl ?_
    refine p_ite hf (fun hc4 hf => ?_) (fun hc4 hf => ?_)
    · refine r_icmp_ge (pc := 57) (tgt := 95) h dX6_check_57 (by decide) (fun _ => ?_) (fun q => absurd hc4 q)
      refine r_le [some (.inr 0), none, some (.inl l2), none, none, none] ⟨rfl, ⟨rfl, trivial⟩⟩ ?_
      exact w_X6_check_95 h hr _ _ hf
    · refine r_icmp_ge (pc := 57) (tgt := 95) h dX6_check_57 (by decide) (fun q => absurd q hc4) (fun _ => ?_)
      refine r_iload (pc := 60) h dX6_check_60 rfl ?_
      refine r_bipush (pc := 62) (v := 30) h dX6_check_62 (by decide) ?_
      refine p_ite hf (fun hc5 hf => ?_) (fun hc5 hf => ?_)
      · refine r_icmp_ge (pc := 64) (tgt := 95) h dX6_check_64 (by decide) (fun _ => ?_) (fun q => absurd hc5 q)
        refine r_le [some (.inr 0), none, some (.inl l2), none, none, none] ⟨rfl, ⟨rfl, trivial⟩⟩ ?_
        exact w_X6_check_95 h hr _ _ hf
      · refine r_icmp_ge (pc := 64) (tgt := 95) h dX6_check_64 (by decide) (fun q => absurd q hc5) (fun _ => ?_)
        refine r_aload_n (pc := 67) h dX6_check_67 rfl ?_
        refine gf_X6_53 (pc := 68) h dX6_check_68 ?_
        refine r_aload_n (pc := 71) h dX6_check_71 rfl ?_
        refine gf_X6_57 (pc := 72) h dX6_check_72 ?_
        refine r_iload (pc := 75) h dX6_check_75 rfl ?_
        refine p_g hf (fun hi6 hf => ?_)
        refine r_iald (pc := 77) (k := 29) (v := (u 29 l5.toNatClampNeg)) h hshX_29 hi6 rfl dX6_check_77 ?_
        refine p_b hf (fun q7 e8 hf => ?_)
        refine r_cVi (pc := 78) (k := 27) (st := []) h [.inl (u 29 l5.toNatClampNeg)] cv_X0_handle wm_X6_205 (c_X0_handle e8) ⟨rfl, rfl, Nat.le_of_ble_eq_true rfl, Nat.le_of_ble_eq_true rfl⟩ hshX_27 rfl rfl (Nat.le_of_ble_eq_true rfl) dX6_check_78 ?_
        refine p_ite hf (fun hc9 hf => ?_) (fun hc9 hf => ?_)
        · refine r_if_ne (pc := 81) (tgt := 89) h dX6_check_81 (by decide) (fun q => absurd hc9 q) (fun _ => ?_)
          refine r_iconst (pc := 84) (v := 1) h dX6_check_84 (by decide) ?_
          refine r_iload (pc := 85) h dX6_check_85 rfl ?_
          refine r_iadd (pc := 87) h dX6_check_87 ?_
          have hf := Option.some.inj hf
          subst hf
          exact hr 88 _ dX6_check_88
        · refine r_if_ne (pc := 81) (tgt := 89) h dX6_check_81 (by decide) (fun _ => ?_) (fun q => absurd q hc9)
          refine r_iinc (pc := 89) (v := (l5 + 1)) (L' := [some (.inr 0), none, some (.inl l2), none, some (.inl l4), some (.inl (l5 + 1))]) h dX6_check_89 rfl rfl (by decide) rfl ?_
          refine r_goto (pc := 92) (tgt := 53) h dX6_check_92 (by decide) ?_
          exact ih _ _ _ _ hf
set_option maxRecDepth 100000 in
set_option maxHeartbeats 4000000 in
theorem w_X6_check_0 {K : Kx} {E : Ex} (h : Ok shX K E RX6 cX6_check 6 rm_X6_check) {r : Int32 × St} (hr : RetI shX K E cX6_check 6 r.1 r.2) (u : St) (l1 l2 l3 : Int32) (hf : f_X6_check u l1 l2 l3 = some r) : Vd shX K E 6 0 [some (.inr 0), some (.inl l1), some (.inl l2), some (.inl l3), none, none] [] u := by
  refine r_aload_n (pc := 0) h dX6_check_0 rfl ?_
  refine r_iload_n (pc := 1) h dX6_check_1 rfl ?_
  refine r_iload_n (pc := 2) h dX6_check_2 rfl ?_
  refine r_iload_n (pc := 3) h dX6_check_3 rfl ?_
  refine p_b hf (fun q10 e11 hf => ?_)
  refine r_cVi (pc := 4) (k := 0) (st := []) h [.inl l1, .inl l2, .inl l3] cv_X6_isChange wm_X6_111 (c_X6_isChange e11) ⟨rfl, rfl, Nat.le_of_ble_eq_true rfl, Nat.le_of_ble_eq_true rfl⟩ hshX_0 rfl rfl (Nat.le_of_ble_eq_true rfl) dX6_check_4 ?_
  refine p_ite hf (fun hc12 hf => ?_) (fun hc12 hf => ?_)
  · refine r_if_ne (pc := 7) (tgt := 16) h dX6_check_7 (by decide) (fun q => absurd hc12 q) (fun _ => ?_)
    refine r_aload_n (pc := 10) h dX6_check_10 rfl ?_
    refine r_iconst (pc := 11) (v := 1) h dX6_check_11 (by decide) ?_
    refine p_b hf (fun q20 e21 hf => ?_)
    refine r_cVi (pc := 12) (k := 0) (st := []) h [.inl 1] cv_X6_finding wm_X6_72 (c_X6_finding e21) ⟨rfl, rfl, Nat.le_of_ble_eq_true rfl, Nat.le_of_ble_eq_true rfl⟩ hshX_0 rfl rfl (Nat.le_of_ble_eq_true rfl) dX6_check_12 ?_
    have hf := Option.some.inj hf
    subst hf
    exact hr 15 _ dX6_check_15
  · refine r_if_ne (pc := 7) (tgt := 16) h dX6_check_7 (by decide) (fun _ => ?_) (fun q => absurd q hc12)
    refine r_aload_n (pc := 16) h dX6_check_16 rfl ?_
    refine gf_X6_199 (pc := 17) (v := (u 0 8)) h rfl dX6_check_17 ?_
    refine r_istore (pc := 20) (L' := [some (.inr 0), some (.inl l1), some (.inl l2), some (.inl l3), some (.inl (u 0 8)), none]) h dX6_check_20 (by decide) rfl ?_
    refine r_aload_n (pc := 22) h dX6_check_22 rfl ?_
    refine r_iconst (pc := 23) (v := 0) h dX6_check_23 (by decide) ?_
    refine pf_X6_199 (pc := 24) h dX6_check_24 ?_
    refine r_aload_n (pc := 27) h dX6_check_27 rfl ?_
    refine r_iload_n (pc := 28) h dX6_check_28 rfl ?_
    refine r_iload_n (pc := 29) h dX6_check_29 rfl ?_
    refine r_iload_n (pc := 30) h dX6_check_30 rfl ?_
    refine p_b hf (fun q13 e14 hf => ?_)
    refine r_cVi (pc := 31) (k := 0) (st := []) h [.inl l1, .inl l2, .inl l3] cv_X6_isAllowed wm_X6_114 (c_X6_isAllowed e14) ⟨rfl, rfl, Nat.le_of_ble_eq_true rfl, Nat.le_of_ble_eq_true rfl⟩ hshX_0 rfl rfl (Nat.le_of_ble_eq_true rfl) dX6_check_31 ?_
    refine p_ite hf (fun hc15 hf => ?_) (fun hc15 hf => ?_)
    · refine r_if_ne (pc := 34) (tgt := 43) h dX6_check_34 (by decide) (fun q => absurd hc15 q) (fun _ => ?_)
      refine r_aload_n (pc := 37) h dX6_check_37 rfl ?_
      refine r_iconst (pc := 38) (v := 3) h dX6_check_38 (by decide) ?_
      refine p_b hf (fun q18 e19 hf => ?_)
      refine r_cVi (pc := 39) (k := 0) (st := []) h [.inl 3] cv_X6_finding wm_X6_72 (c_X6_finding e19) ⟨rfl, rfl, Nat.le_of_ble_eq_true rfl, Nat.le_of_ble_eq_true rfl⟩ hshX_0 rfl rfl (Nat.le_of_ble_eq_true rfl) dX6_check_39 ?_
      have hf := Option.some.inj hf
      subst hf
      exact hr 42 _ dX6_check_42
    · refine r_if_ne (pc := 34) (tgt := 43) h dX6_check_34 (by decide) (fun _ => ?_) (fun q => absurd q hc15)
      refine r_aload_n (pc := 43) h dX6_check_43 rfl ?_
      refine r_iload_n (pc := 44) h dX6_check_44 rfl ?_
      refine r_iload_n (pc := 45) h dX6_check_45 rfl ?_
      refine r_iload_n (pc := 46) h dX6_check_46 rfl ?_
      refine p_b hf (fun q16 e17 hf => ?_)
      refine r_cVv (pc := 47) (k := 0) (st := []) h [.inl l1, .inl l2, .inl l3] cv_X6_dressForChange wm_X6_202 (c_X6_dressForChange e17) ⟨rfl, rfl, Nat.le_of_ble_eq_true rfl, Nat.le_of_ble_eq_true rfl⟩ hshX_0 rfl rfl (Nat.le_of_ble_eq_true rfl) dX6_check_47 ?_
      refine r_iconst (pc := 50) (v := 0) h dX6_check_50 (by decide) ?_
      refine r_istore (pc := 51) (L' := [some (.inr 0), some (.inl l1), some (.inl l2), some (.inl l3), some (.inl (u 0 8)), some (.inl 0)]) h dX6_check_51 (by decide) rfl ?_
      refine r_le [some (.inr 0), none, some (.inl l2), none, some (.inl (u 0 8)), some (.inl 0)] ⟨rfl, ⟨rfl, ⟨rfl, ⟨rfl, trivial⟩⟩⟩⟩ ?_
      exact w_X6_check_53 h hr FU _ _ _ _ hf
theorem c_X6_check {u : St} {l1 l2 l3 : Int32} {r : Int32 × St} (hf : f_X6_check u l1 l2 l3 = some r) : CtI shX yX6_check cX6_check 6 (some .int) rm_X6_check [.inr 0, .inl l1, .inl l2, .inl l3] u r.1 r.2 := ct_I (by decide +kernel) (Nat.le_of_ble_eq_true rfl) (fun K E h hr => w_X6_check_0 h hr _ _ _ _ hf)
set_option maxRecDepth 100000 in
set_option maxHeartbeats 4000000 in
theorem w_X6_count_0 {K : Kx} {E : Ex} (h : Ok shX K E RX6 cX6_count 2 rm_X6_count) {r : Int32 × St} (hr : RetI shX K E cX6_count 2 r.1 r.2) (u : St) (l1 : Int32) (hf : f_X6_count u l1 = some r) : Vd shX K E 2 0 [some (.inr 0), some (.inl l1)] [] u := by
  refine r_iload_n (pc := 0) h dX6_count_0 rfl ?_
  refine p_ite hf (fun hc1 hf => ?_) (fun hc1 hf => ?_)
  · refine r_tIn (pc := 1) (tgt := 40) h dX6_count_1 (by rw [hc1]; decide) (by rw [hc1]; decide) (by rw [hc1]; rfl) (by decide) ?_
    refine r_aload_n (pc := 40) h dX6_count_40 rfl ?_
    refine gf_X6_10 (pc := 41) h dX6_count_41 ?_
    refine gf_X6_210 (pc := 44) (v := (u 1 1)) h rfl dX6_count_44 ?_
    have hf := Option.some.inj hf
    subst hf
    exact hr 47 _ dX6_count_47
  · refine p_ite hf (fun hc2 hf => ?_) (fun hc2 hf => ?_)
    · refine r_tIn (pc := 1) (tgt := 48) h dX6_count_1 (by rw [hc2]; decide) (by rw [hc2]; decide) (by rw [hc2]; rfl) (by decide) ?_
      refine r_aload_n (pc := 48) h dX6_count_48 rfl ?_
      refine gf_X6_35 (pc := 49) h dX6_count_49 ?_
      refine gf_X6_153 (pc := 52) (v := (u 15 5)) h rfl dX6_count_52 ?_
      have hf := Option.some.inj hf
      subst hf
      exact hr 55 _ dX6_count_55
    · refine p_ite hf (fun hc3 hf => ?_) (fun hc3 hf => ?_)
      · refine r_tIn (pc := 1) (tgt := 56) h dX6_count_1 (by rw [hc3]; decide) (by rw [hc3]; decide) (by rw [hc3]; rfl) (by decide) ?_
        refine r_aload_n (pc := 56) h dX6_count_56 rfl ?_
        refine gf_X6_10 (pc := 57) h dX6_count_57 ?_
        refine gf_X6_189 (pc := 60) (v := (u 1 2)) h rfl dX6_count_60 ?_
        have hf := Option.some.inj hf
        subst hf
        exact hr 63 _ dX6_count_63
      · refine p_ite hf (fun hc4 hf => ?_) (fun hc4 hf => ?_)
        · refine r_tIn (pc := 1) (tgt := 64) h dX6_count_1 (by rw [hc4]; decide) (by rw [hc4]; decide) (by rw [hc4]; rfl) (by decide) ?_
          refine r_aload_n (pc := 64) h dX6_count_64 rfl ?_
          refine gf_X6_199 (pc := 65) (v := (u 0 8)) h rfl dX6_count_65 ?_
          have hf := Option.some.inj hf
          subst hf
          exact hr 68 _ dX6_count_68
        · refine p_ite hf (fun hc5 hf => ?_) (fun hc5 hf => ?_)
          · refine r_tIn (pc := 1) (tgt := 69) h dX6_count_1 (by rw [hc5]; decide) (by rw [hc5]; decide) (by rw [hc5]; rfl) (by decide) ?_
            refine r_aload_n (pc := 69) h dX6_count_69 rfl ?_
            refine gf_X6_10 (pc := 70) h dX6_count_70 ?_
            refine p_b hf (fun q6 e7 hf => ?_)
            refine r_cVi (pc := 73) (k := 1) (st := []) h [] cv_X5_countInWash wm_X6_183 (c_X5_countInWash e7) ⟨rfl, rfl, Nat.le_of_ble_eq_true rfl, Nat.le_of_ble_eq_true rfl⟩ hshX_1 rfl rfl (Nat.le_of_ble_eq_true rfl) dX6_count_73 ?_
            have hf := Option.some.inj hf
            subst hf
            exact hr 76 _ dX6_count_76
          · refine p_ite hf (fun hc8 hf => ?_) (fun hc8 hf => ?_)
            · refine r_tIn (pc := 1) (tgt := 77) h dX6_count_1 (by rw [hc8]; decide) (by rw [hc8]; decide) (by rw [hc8]; rfl) (by decide) ?_
              refine r_aload_n (pc := 77) h dX6_count_77 rfl ?_
              refine gf_X6_64 (pc := 78) (v := (u 0 9)) h rfl dX6_count_78 ?_
              have hf := Option.some.inj hf
              subst hf
              exact hr 81 _ dX6_count_81
            · refine r_tOut (pc := 1) (tgt := 82) h dX6_count_1 (sw_out6 hc1 hc2 hc3 hc4 hc5 hc8) (by decide) ?_
              refine r_aload_n (pc := 82) h dX6_count_82 rfl ?_
              refine r_iconst (pc := 83) (v := 1) h dX6_count_83 (by decide) ?_
              refine p_b hf (fun q9 e10 hf => ?_)
              refine r_cVi (pc := 84) (k := 0) (st := []) h [.inl 1] cv_X6_finding wm_X6_72 (c_X6_finding e10) ⟨rfl, rfl, Nat.le_of_ble_eq_true rfl, Nat.le_of_ble_eq_true rfl⟩ hshX_0 rfl rfl (Nat.le_of_ble_eq_true rfl) dX6_count_84 ?_
              have hf := Option.some.inj hf
              subst hf
              exact hr 87 _ dX6_count_87
theorem c_X6_count {u : St} {l1 : Int32} {r : Int32 × St} (hf : f_X6_count u l1 = some r) : CtI shX yX6_count cX6_count 2 (some .int) rm_X6_count [.inr 0, .inl l1] u r.1 r.2 := ct_I (by decide +kernel) (Nat.le_of_ble_eq_true rfl) (fun K E h hr => w_X6_count_0 h hr _ _ hf)
set_option maxRecDepth 100000 in
set_option maxHeartbeats 4000000 in
theorem w_X6_found_0 {K : Kx} {E : Ex} (h : Ok shX K E RX6 cX6_found 2 rm_X6_found) {r : Int32 × St} (hr : RetI shX K E cX6_found 2 r.1 r.2) (u : St) (l1 : Int32) (hf : f_X6_found u l1 = some r) : Vd shX K E 2 0 [some (.inr 0), some (.inl l1)] [] u := by
  refine r_iload_n (pc := 0) h dX6_found_0 rfl ?_
  refine r_iconst (pc := 1) (v := 1) h dX6_found_1 (by decide) ?_
  refine r_iconst (pc := 2) (v := 5) h dX6_found_2 (by decide) ?_
  refine p_b hf (fun q1 e2 hf => ?_)
  refine r_cSi (pc := 3) (st := []) h [.inl l1, .inl 1, .inl 5] cs_X6_isWithin wm_X6_88 (c_X6_isWithin e2) ⟨rfl, rfl, Nat.le_of_ble_eq_true rfl, Nat.le_of_ble_eq_true rfl⟩ (Nat.le_of_ble_eq_true rfl) dX6_found_3 ?_
  refine p_ite hf (fun hc3 hf => ?_) (fun hc3 hf => ?_)
  · refine r_if_eq (pc := 6) (tgt := 18) h dX6_found_6 (by decide) (fun _ => ?_) (fun q => absurd hc3 q)
    refine r_aload_n (pc := 18) h dX6_found_18 rfl ?_
    refine r_iconst (pc := 19) (v := 1) h dX6_found_19 (by decide) ?_
    refine p_b hf (fun q4 e5 hf => ?_)
    refine r_cVi (pc := 20) (k := 0) (st := []) h [.inl 1] cv_X6_finding wm_X6_72 (c_X6_finding e5) ⟨rfl, rfl, Nat.le_of_ble_eq_true rfl, Nat.le_of_ble_eq_true rfl⟩ hshX_0 rfl rfl (Nat.le_of_ble_eq_true rfl) dX6_found_20 ?_
    have hf := Option.some.inj hf
    subst hf
    exact hr 23 _ dX6_found_23
  · refine r_if_eq (pc := 6) (tgt := 18) h dX6_found_6 (by decide) (fun q => absurd q hc3) (fun _ => ?_)
    refine r_aload_n (pc := 9) h dX6_found_9 rfl ?_
    refine gf_X6_61 (pc := 10) h dX6_found_10 ?_
    refine r_iload_n (pc := 13) h dX6_found_13 rfl ?_
    refine p_g hf (fun hi6 hf => ?_)
    refine r_iald (pc := 14) (k := 30) (v := (u 30 l1.toNatClampNeg)) h hshX_30 hi6 rfl dX6_found_14 ?_
    refine r_goto (pc := 15) (tgt := 23) h dX6_found_15 (by decide) ?_
    have hf := Option.some.inj hf
    subst hf
    exact hr 23 _ dX6_found_23
theorem c_X6_found {u : St} {l1 : Int32} {r : Int32 × St} (hf : f_X6_found u l1 = some r) : CtI shX yX6_found cX6_found 2 (some .int) rm_X6_found [.inr 0, .inl l1] u r.1 r.2 := ct_I (by decide +kernel) (Nat.le_of_ble_eq_true rfl) (fun K E h hr => w_X6_found_0 h hr _ _ hf)
