set_option maxRecDepth 100000 in
set_option maxHeartbeats 4000000 in
theorem w_X6_bare_0 {K : Kx} {E : Ex} (h : Ok shX K E RX6 cX6_bare 2 rm_X6_bare) {r : Int32 × St} (hr : RetI shX K E cX6_bare 2 r.1 r.2) (u : St) (l1 : Int32) (hf : f_X6_bare u l1 = some r) : Vd shX K E 2 0 [some (.inr 0), some (.inl l1)] [] u := by
  refine r_aload_n (pc := 0) h dX6_bare_0 rfl ?_
  refine gf_X6_19 (pc := 1) h dX6_bare_1 ?_
  refine r_iload_n (pc := 4) h dX6_bare_4 rfl ?_
  refine p_b hf (fun q1 e2 hf => ?_)
  refine r_cVi (pc := 5) (k := 3) (st := []) h [.inl l1] cv_X2_has wm_X6_95 (c_X2_has e2) ⟨rfl, rfl, Nat.le_of_ble_eq_true rfl, Nat.le_of_ble_eq_true rfl⟩ hshX_3 rfl rfl (Nat.le_of_ble_eq_true rfl) dX6_bare_5 ?_
  refine p_ite hf (fun hc3 hf => ?_) (fun hc3 hf => ?_)
  · refine r_if_ne (pc := 8) (tgt := 17) h dX6_bare_8 (by decide) (fun q => absurd hc3 q) (fun _ => ?_)
    refine r_aload_n (pc := 11) h dX6_bare_11 rfl ?_
    refine r_iconst (pc := 12) (v := 1) h dX6_bare_12 (by decide) ?_
    refine p_b hf (fun q6 e7 hf => ?_)
    refine r_cVi (pc := 13) (k := 0) (st := []) h [.inl 1] cv_X6_finding wm_X6_72 (c_X6_finding e7) ⟨rfl, rfl, Nat.le_of_ble_eq_true rfl, Nat.le_of_ble_eq_true rfl⟩ hshX_0 rfl rfl (Nat.le_of_ble_eq_true rfl) dX6_bare_13 ?_
    have hf := Option.some.inj hf
    subst hf
    exact hr 16 _ dX6_bare_16
  · refine r_if_ne (pc := 8) (tgt := 17) h dX6_bare_8 (by decide) (fun _ => ?_) (fun q => absurd q hc3)
    refine r_aload_n (pc := 17) h dX6_bare_17 rfl ?_
    refine gf_X6_19 (pc := 18) h dX6_bare_18 ?_
    refine r_iload_n (pc := 21) h dX6_bare_21 rfl ?_
    refine p_b hf (fun q4 e5 hf => ?_)
    refine r_cVi (pc := 22) (k := 3) (st := []) h [.inl l1] cv_X2_clear wm_X6_105 (c_X2_clear e5) ⟨rfl, rfl, Nat.le_of_ble_eq_true rfl, Nat.le_of_ble_eq_true rfl⟩ hshX_3 rfl rfl (Nat.le_of_ble_eq_true rfl) dX6_bare_22 ?_
    have hf := Option.some.inj hf
    subst hf
    exact hr 25 _ dX6_bare_25
theorem c_X6_bare {u : St} {l1 : Int32} {r : Int32 × St} (hf : f_X6_bare u l1 = some r) : CtI shX yX6_bare cX6_bare 2 (some .int) rm_X6_bare [.inr 0, .inl l1] u r.1 r.2 := ct_I (by decide +kernel) (Nat.le_of_ble_eq_true rfl) (fun K E h hr => w_X6_bare_0 h hr _ _ hf)
set_option maxRecDepth 100000 in
set_option maxHeartbeats 4000000 in
theorem w_X6_look_0 {K : Kx} {E : Ex} (h : Ok shX K E RX6 cX6_look 4 rm_X6_look) {r : Int32 × St} (hr : RetI shX K E cX6_look 4 r.1 r.2) (u : St) (l1 l2 : Int32) (hf : f_X6_look u l1 l2 = some r) : Vd shX K E 4 0 [some (.inr 0), some (.inl l1), some (.inl l2), none] [] u := by
  refine r_aload_n (pc := 0) h dX6_look_0 rfl ?_
  refine gf_X6_19 (pc := 1) h dX6_look_1 ?_
  refine r_iload_n (pc := 4) h dX6_look_4 rfl ?_
  refine p_b hf (fun q1 e2 hf => ?_)
  refine r_cVi (pc := 5) (k := 3) (st := []) h [.inl l1] cv_X2_has wm_X6_95 (c_X2_has e2) ⟨rfl, rfl, Nat.le_of_ble_eq_true rfl, Nat.le_of_ble_eq_true rfl⟩ hshX_3 rfl rfl (Nat.le_of_ble_eq_true rfl) dX6_look_5 ?_
  refine p_ite hf (fun hc3 hf => ?_) (fun hc3 hf => ?_)
  · refine r_if_ne (pc := 8) (tgt := 17) h dX6_look_8 (by decide) (fun q => absurd hc3 q) (fun _ => ?_)
    refine r_aload_n (pc := 11) h dX6_look_11 rfl ?_
    refine r_iconst (pc := 12) (v := 1) h dX6_look_12 (by decide) ?_
    refine p_b hf (fun q9 e10 hf => ?_)
    refine r_cVi (pc := 13) (k := 0) (st := []) h [.inl 1] cv_X6_finding wm_X6_72 (c_X6_finding e10) ⟨rfl, rfl, Nat.le_of_ble_eq_true rfl, Nat.le_of_ble_eq_true rfl⟩ hshX_0 rfl rfl (Nat.le_of_ble_eq_true rfl) dX6_look_13 ?_
    have hf := Option.some.inj hf
    subst hf
    exact hr 16 _ dX6_look_16
  · refine r_if_ne (pc := 8) (tgt := 17) h dX6_look_8 (by decide) (fun _ => ?_) (fun q => absurd q hc3)
    refine r_aload_n (pc := 17) h dX6_look_17 rfl ?_
    refine gf_X6_19 (pc := 18) h dX6_look_18 ?_
    refine r_iload_n (pc := 21) h dX6_look_21 rfl ?_
    refine r_iload_n (pc := 22) h dX6_look_22 rfl ?_
    refine p_b hf (fun q4 e5 hf => ?_)
    refine r_cVi (pc := 23) (k := 3) (st := []) h [.inl l1, .inl l2] cv_X2_at wm_X6_108 (c_X2_at e5) ⟨rfl, rfl, Nat.le_of_ble_eq_true rfl, Nat.le_of_ble_eq_true rfl⟩ hshX_3 rfl rfl (Nat.le_of_ble_eq_true rfl) dX6_look_23 ?_
    refine r_istore_n (pc := 26) (L' := [some (.inr 0), some (.inl l1), some (.inl l2), some (.inl q4)]) h dX6_look_26 (by decide) rfl ?_
    refine r_iload_n (pc := 27) h dX6_look_27 rfl ?_
    refine p_ite hf (fun hc6 hf => ?_) (fun hc6 hf => ?_)
    · refine r_if_ge (pc := 28) (tgt := 39) h dX6_look_28 (by decide) (fun _ => ?_) (fun q => absurd hc6 q)
      refine r_iload_n (pc := 39) h dX6_look_39 rfl ?_
      have hf := Option.some.inj hf
      subst hf
      exact hr 40 _ dX6_look_40
    · refine r_if_ge (pc := 28) (tgt := 39) h dX6_look_28 (by decide) (fun q => absurd q hc6) (fun _ => ?_)
      refine r_aload_n (pc := 31) h dX6_look_31 rfl ?_
      refine r_iconst (pc := 32) (v := 2) h dX6_look_32 (by decide) ?_
      refine p_b hf (fun q7 e8 hf => ?_)
      refine r_cVi (pc := 33) (k := 0) (st := []) h [.inl 2] cv_X6_finding wm_X6_72 (c_X6_finding e8) ⟨rfl, rfl, Nat.le_of_ble_eq_true rfl, Nat.le_of_ble_eq_true rfl⟩ hshX_0 rfl rfl (Nat.le_of_ble_eq_true rfl) dX6_look_33 ?_
      refine r_goto (pc := 36) (tgt := 40) h dX6_look_36 (by decide) ?_
      have hf := Option.some.inj hf
      subst hf
      exact hr 40 _ dX6_look_40
theorem c_X6_look {u : St} {l1 l2 : Int32} {r : Int32 × St} (hf : f_X6_look u l1 l2 = some r) : CtI shX yX6_look cX6_look 4 (some .int) rm_X6_look [.inr 0, .inl l1, .inl l2] u r.1 r.2 := ct_I (by decide +kernel) (Nat.le_of_ble_eq_true rfl) (fun K E h hr => w_X6_look_0 h hr _ _ _ hf)
set_option maxRecDepth 100000 in
set_option maxHeartbeats 4000000 in
theorem w_X6_limit_0 {K : Kx} {E : Ex} (h : Ok shX K E RX6 cX6_limit 3 rm_X6_limit) {r : Int32 × St} (hr : RetI shX K E cX6_limit 3 r.1 r.2) (u : St) (l1 : Int32) (hf : f_X6_limit u l1 = some r) : Vd shX K E 3 0 [some (.inr 0), some (.inl l1), none] [] u := by
  refine r_iload_n (pc := 0) h dX6_limit_0 rfl ?_
  refine r_iconst (pc := 1) (v := 1) h dX6_limit_1 (by decide) ?_
  refine r_bipush (pc := 2) (v := 30) h dX6_limit_2 (by decide) ?_
  refine p_b hf (fun q1 e2 hf => ?_)
  refine r_cSi (pc := 4) (st := []) h [.inl l1, .inl 1, .inl 30] cs_X6_isWithin wm_X6_88 (c_X6_isWithin e2) ⟨rfl, rfl, Nat.le_of_ble_eq_true rfl, Nat.le_of_ble_eq_true rfl⟩ (Nat.le_of_ble_eq_true rfl) dX6_limit_4 ?_
  refine p_ite hf (fun hc3 hf => ?_) (fun hc3 hf => ?_)
  · refine r_if_ne (pc := 7) (tgt := 16) h dX6_limit_7 (by decide) (fun q => absurd hc3 q) (fun _ => ?_)
    refine r_aload_n (pc := 10) h dX6_limit_10 rfl ?_
    refine r_iconst (pc := 11) (v := 1) h dX6_limit_11 (by decide) ?_
    refine p_b hf (fun q4 e5 hf => ?_)
    refine r_cVi (pc := 12) (k := 0) (st := []) h [.inl 1] cv_X6_finding wm_X6_72 (c_X6_finding e5) ⟨rfl, rfl, Nat.le_of_ble_eq_true rfl, Nat.le_of_ble_eq_true rfl⟩ hshX_0 rfl rfl (Nat.le_of_ble_eq_true rfl) dX6_limit_12 ?_
    have hf := Option.some.inj hf
    subst hf
    exact hr 15 _ dX6_limit_15
  · refine r_if_ne (pc := 7) (tgt := 16) h dX6_limit_7 (by decide) (fun _ => ?_) (fun q => absurd q hc3)
    refine r_aload_n (pc := 16) h dX6_limit_16 rfl ?_
    refine gf_X6_64 (pc := 17) (v := (u 0 9)) h rfl dX6_limit_17 ?_
    refine r_istore_n (pc := 20) (L' := [some (.inr 0), some (.inl l1), some (.inl (u 0 9))]) h dX6_limit_20 (by decide) rfl ?_
    refine r_aload_n (pc := 21) h dX6_limit_21 rfl ?_
    refine r_iload_n (pc := 22) h dX6_limit_22 rfl ?_
    refine pf_X6_64 (pc := 23) h dX6_limit_23 ?_
    refine r_iload_n (pc := 26) h dX6_limit_26 rfl ?_
    have hf := Option.some.inj hf
    subst hf
    exact hr 27 _ dX6_limit_27
theorem c_X6_limit {u : St} {l1 : Int32} {r : Int32 × St} (hf : f_X6_limit u l1 = some r) : CtI shX yX6_limit cX6_limit 3 (some .int) rm_X6_limit [.inr 0, .inl l1] u r.1 r.2 := ct_I (by decide +kernel) (Nat.le_of_ble_eq_true rfl) (fun K E h hr => w_X6_limit_0 h hr _ _ hf)
set_option maxRecDepth 100000 in
set_option maxHeartbeats 4000000 in
theorem w_X2_hasBits_0 {K : Kx} {E : Ex} (h : Ok shX K E RX2 cX2_hasBits 3 rm_X2_hasBits) {r : Int32} {u : St} (hr : RetZ shX K E cX2_hasBits 3 r u) (l1 l2 : Int32) (hf : f_X2_hasBits u l1 l2 = some r) : Vd shX K E 3 0 [some (.inr 3), some (.inl l1), some (.inl l2)] [] u := by
  refine r_iload_n (pc := 0) h dX2_hasBits_0 rfl ?_
  refine r_aload_n (pc := 1) h dX2_hasBits_1 rfl ?_
  refine r_iload_n (pc := 2) h dX2_hasBits_2 rfl ?_
  refine p_b hf (fun q1 e2 hf => ?_)
  refine r_cVi (pc := 3) (k := 3) (st := [.inl l2]) h [.inl l1] cv_X2_sizeOf wm_X2_25 (c_X2_sizeOf e2) ⟨rfl, rfl, Nat.le_of_ble_eq_true rfl, Nat.le_of_ble_eq_true rfl⟩ hshX_3 rfl rfl (Nat.le_of_ble_eq_true rfl) dX2_hasBits_3 ?_
  refine r_iushr (pc := 6) h dX2_hasBits_6 ?_
  refine p_ite hf (fun hc3 hf => ?_) (fun hc3 hf => ?_)
  · refine r_if_ne (pc := 7) (tgt := 14) h dX2_hasBits_7 (by decide) (fun q => absurd hc3 q) (fun _ => ?_)
    refine r_iconst (pc := 10) (v := 1) h dX2_hasBits_10 (by decide) ?_
    refine r_goto (pc := 11) (tgt := 15) h dX2_hasBits_11 (by decide) ?_
    have hf := Option.some.inj hf
    subst hf
    exact hr 15 _ dX2_hasBits_15 z_1
  · refine r_if_ne (pc := 7) (tgt := 14) h dX2_hasBits_7 (by decide) (fun _ => ?_) (fun q => absurd q hc3)
    refine r_iconst (pc := 14) (v := 0) h dX2_hasBits_14 (by decide) ?_
    have hf := Option.some.inj hf
    subst hf
    exact hr 15 _ dX2_hasBits_15 z_0
theorem c_X2_hasBits {u : St} {l1 l2 : Int32} {r : Int32} (hf : f_X2_hasBits u l1 l2 = some r) : CtI shX yX2_hasBits cX2_hasBits 3 (some .boolean) rm_X2_hasBits [.inr 3, .inl l1, .inl l2] u r u := ct_Z (by decide +kernel) (Nat.le_of_ble_eq_true rfl) (fun K E h hr => w_X2_hasBits_0 h hr _ _ hf)
set_option maxRecDepth 100000 in
set_option maxHeartbeats 4000000 in
theorem w_X6_isChange_0 {K : Kx} {E : Ex} (h : Ok shX K E RX6 cX6_isChange 4 rm_X6_isChange) {r : Int32} {u : St} (hr : RetZ shX K E cX6_isChange 4 r u) (l1 l2 l3 : Int32) (hf : f_X6_isChange u l1 l2 l3 = some r) : Vd shX K E 4 0 [some (.inr 0), some (.inl l1), some (.inl l2), some (.inl l3)] [] u := by
  refine r_aload_n (pc := 0) h dX6_isChange_0 rfl ?_
  refine gf_X6_19 (pc := 1) h dX6_isChange_1 ?_
  refine r_iload_n (pc := 4) h dX6_isChange_4 rfl ?_
  refine p_b hf (fun q1 e2 hf => ?_)
  refine r_cVi (pc := 5) (k := 3) (st := []) h [.inl l1] cv_X2_has wm_X6_95 (c_X2_has e2) ⟨rfl, rfl, Nat.le_of_ble_eq_true rfl, Nat.le_of_ble_eq_true rfl⟩ hshX_3 rfl rfl (Nat.le_of_ble_eq_true rfl) dX6_isChange_5 ?_
  refine p_ite hf (fun hc3 hf => ?_) (fun hc3 hf => ?_)
  · refine r_if_eq (pc := 8) (tgt := 38) h dX6_isChange_8 (by decide) (fun _ => ?_) (fun q => absurd hc3 q)
    refine r_iconst (pc := 38) (v := 0) h dX6_isChange_38 (by decide) ?_
    have hf := Option.some.inj hf
    subst hf
    exact hr 39 _ dX6_isChange_39 z_0
  · refine r_if_eq (pc := 8) (tgt := 38) h dX6_isChange_8 (by decide) (fun q => absurd q hc3) (fun _ => ?_)
    refine r_aload_n (pc := 11) h dX6_isChange_11 rfl ?_
    refine gf_X6_19 (pc := 12) h dX6_isChange_12 ?_
    refine r_iload_n (pc := 15) h dX6_isChange_15 rfl ?_
    refine p_b hf (fun q4 e5 hf => ?_)
    refine r_cVi (pc := 16) (k := 3) (st := []) h [.inl l2] cv_X2_has wm_X6_95 (c_X2_has e5) ⟨rfl, rfl, Nat.le_of_ble_eq_true rfl, Nat.le_of_ble_eq_true rfl⟩ hshX_3 rfl rfl (Nat.le_of_ble_eq_true rfl) dX6_isChange_16 ?_
    refine p_ite hf (fun hc6 hf => ?_) (fun hc6 hf => ?_)
    · refine r_if_eq (pc := 19) (tgt := 38) h dX6_isChange_19 (by decide) (fun _ => ?_) (fun q => absurd hc6 q)
      refine r_iconst (pc := 38) (v := 0) h dX6_isChange_38 (by decide) ?_
      have hf := Option.some.inj hf
      subst hf
      exact hr 39 _ dX6_isChange_39 z_0
    · refine r_if_eq (pc := 19) (tgt := 38) h dX6_isChange_19 (by decide) (fun q => absurd q hc6) (fun _ => ?_)
      refine r_aload_n (pc := 22) h dX6_isChange_22 rfl ?_
      refine gf_X6_19 (pc := 23) h dX6_isChange_23 ?_
      refine r_iload_n (pc := 26) h dX6_isChange_26 rfl ?_
      refine r_iload_n (pc := 27) h dX6_isChange_27 rfl ?_
      refine p_b hf (fun q7 e8 hf => ?_)
      refine r_cVi (pc := 28) (k := 3) (st := []) h [.inl l2, .inl l3] cv_X2_hasBits wm_X6_245 (c_X2_hasBits e8) ⟨rfl, rfl, Nat.le_of_ble_eq_true rfl, Nat.le_of_ble_eq_true rfl⟩ hshX_3 rfl rfl (Nat.le_of_ble_eq_true rfl) dX6_isChange_28 ?_
      refine p_ite hf (fun hc9 hf => ?_) (fun hc9 hf => ?_)
      · refine r_if_eq (pc := 31) (tgt := 38) h dX6_isChange_31 (by decide) (fun _ => ?_) (fun q => absurd hc9 q)
        refine r_iconst (pc := 38) (v := 0) h dX6_isChange_38 (by decide) ?_
        have hf := Option.some.inj hf
        subst hf
        exact hr 39 _ dX6_isChange_39 z_0
      · refine r_if_eq (pc := 31) (tgt := 38) h dX6_isChange_31 (by decide) (fun q => absurd q hc9) (fun _ => ?_)
        refine r_iconst (pc := 34) (v := 1) h dX6_isChange_34 (by decide) ?_
        refine r_goto (pc := 35) (tgt := 39) h dX6_isChange_35 (by decide) ?_
        have hf := Option.some.inj hf
        subst hf
        exact hr 39 _ dX6_isChange_39 z_1
theorem c_X6_isChange {u : St} {l1 l2 l3 : Int32} {r : Int32} (hf : f_X6_isChange u l1 l2 l3 = some r) : CtI shX yX6_isChange cX6_isChange 4 (some .boolean) rm_X6_isChange [.inr 0, .inl l1, .inl l2, .inl l3] u r u := ct_Z (by decide +kernel) (Nat.le_of_ble_eq_true rfl) (fun K E h hr => w_X6_isChange_0 h hr _ _ _ hf)
set_option maxRecDepth 100000 in
set_option maxHeartbeats 4000000 in
theorem w_X1_wigsOf_14 {K : Kx} {E : Ex} (h : Ok shX K E RX1 cX1_wigsOf 5 rm_X1_wigsOf) {r : Int32} {u : St} (hr : RetI shX K E cX1_wigsOf 5 r u) : ∀ (n : Nat) (l1 l2 l3 l4 : Int32), f_X1_wigsOf_14 u n l1 l2 l3 l4 = some r → Vd shX K E 5 14 [some (.inr 7), some (.inl l1), some (.inl l2), some (.inl l3), some (.inl l4)] [] u := by
  intro n
  induction n with
  | zero => intro l1 l2 l3 l4 hf; cases hf
  | succ n ih =>
    intro l1 l2 l3 l4 hf
    refine r_iload (pc := 14) h dX1_wigsOf_14 rfl ?_
    refine r_iload_n (pc := 16) h dX1_wigsOf_16 rfl ?_
    refine p_ite hf (fun hc1 hf => ?_) (fun hc1 hf => ?_)
    · refine r_icmp_ge (pc := 17) (tgt := 55) h dX1_wigsOf_17 (by decide) (fun _ => ?_) (fun q => absurd hc1 q)
      refine r_iload_n (pc := 55) h dX1_wigsOf_55 rfl ?_
      have hf := Option.some.inj hf
      subst hf
      exact hr 56 _ dX1_wigsOf_56
    · refine r_icmp_ge (pc := 17) (tgt := 55) h dX1_wigsOf_17 (by decide) (fun q => absurd q hc1) (fun _ => ?_)
      refine r_aload_n (pc := 20) h dX1_wigsOf_20 rfl ?_
      refine gf_X1_33 (pc := 21) h dX1_wigsOf_21 ?_
      refine r_aload_n (pc := 24) h dX1_wigsOf_24 rfl ?_
      refine gf_X1_37 (pc := 25) h dX1_wigsOf_25 ?_
      refine r_iload_n (pc := 28) h dX1_wigsOf_28 rfl ?_
      refine r_iload (pc := 29) h dX1_wigsOf_29 rfl ?_
      refine p_b hf (fun q2 e3 hf => ?_)
      refine r_cVi (pc := 31) (k := 3) (st := [.inr 1]) h [.inl l1, .inl l4] cv_X2_at wm_X1_79 (c_X2_at e3) ⟨rfl, rfl, Nat.le_of_ble_eq_true rfl, Nat.le_of_ble_eq_true rfl⟩ hshX_3 rfl rfl (Nat.le_of_ble_eq_true rfl) dX1_wigsOf_31 ?_
      refine r_iconst (pc := 34) (v := 0) h dX1_wigsOf_34 (by decide) ?_
      refine p_b hf (fun q4 e5 hf => ?_)
      refine r_cVi (pc := 35) (k := 1) (st := []) h [.inl q2, .inl 0] cv_X5_fact wm_X1_82 (c_X5_fact e5) ⟨rfl, rfl, Nat.le_of_ble_eq_true rfl, Nat.le_of_ble_eq_true rfl⟩ hshX_1 rfl rfl (Nat.le_of_ble_eq_true rfl) dX1_wigsOf_35 ?_
      refine r_iconst (pc := 38) (v := 1) h dX1_wigsOf_38 (by decide) ?_
      refine p_ite hf (fun hc6 hf => ?_) (fun hc6 hf => ?_)
      · refine r_icmp_ne (pc := 39) (tgt := 49) h dX1_wigsOf_39 (by decide) (fun q => absurd hc6 q) (fun _ => ?_)
        refine r_iload_n (pc := 42) h dX1_wigsOf_42 rfl ?_
        refine r_iconst (pc := 43) (v := 1) h dX1_wigsOf_43 (by decide) ?_
        refine r_iload (pc := 44) h dX1_wigsOf_44 rfl ?_
        refine r_ishl (pc := 46) h dX1_wigsOf_46 ?_
        refine r_ior (pc := 47) h dX1_wigsOf_47 ?_
        refine r_istore_n (pc := 48) (L' := [some (.inr 7), some (.inl l1), some (.inl (l2 ||| (1 <<< (l4 &&& 31)))), some (.inl l3), some (.inl l4)]) h dX1_wigsOf_48 (by decide) rfl ?_
        refine r_iinc (pc := 49) (v := (l4 + 1)) (L' := [some (.inr 7), some (.inl l1), some (.inl (l2 ||| (1 <<< (l4 &&& 31)))), some (.inl l3), some (.inl (l4 + 1))]) h dX1_wigsOf_49 rfl rfl (by decide) rfl ?_
        refine r_goto (pc := 52) (tgt := 14) h dX1_wigsOf_52 (by decide) ?_
        exact ih _ _ _ _ hf
      · refine r_icmp_ne (pc := 39) (tgt := 49) h dX1_wigsOf_39 (by decide) (fun _ => ?_) (fun q => absurd q hc6)
        refine r_iinc (pc := 49) (v := (l4 + 1)) (L' := [some (.inr 7), some (.inl l1), some (.inl l2), some (.inl l3), some (.inl (l4 + 1))]) h dX1_wigsOf_49 rfl rfl (by decide) rfl ?_
        refine r_goto (pc := 52) (tgt := 14) h dX1_wigsOf_52 (by decide) ?_
        exact ih _ _ _ _ hf
set_option maxRecDepth 100000 in
set_option maxHeartbeats 4000000 in
theorem w_X1_wigsOf_0 {K : Kx} {E : Ex} (h : Ok shX K E RX1 cX1_wigsOf 5 rm_X1_wigsOf) {r : Int32} {u : St} (hr : RetI shX K E cX1_wigsOf 5 r u) (l1 : Int32) (hf : f_X1_wigsOf u l1 = some r) : Vd shX K E 5 0 [some (.inr 7), some (.inl l1), none, none, none] [] u := by
  refine r_iconst (pc := 0) (v := 0) h dX1_wigsOf_0 (by decide) ?_
  refine r_istore_n (pc := 1) (L' := [some (.inr 7), some (.inl l1), some (.inl 0), none, none]) h dX1_wigsOf_1 (by decide) rfl ?_
  refine r_aload_n (pc := 2) h dX1_wigsOf_2 rfl ?_
  refine gf_X1_37 (pc := 3) h dX1_wigsOf_3 ?_
  refine r_iload_n (pc := 6) h dX1_wigsOf_6 rfl ?_
  refine p_b hf (fun q7 e8 hf => ?_)
  refine r_cVi (pc := 7) (k := 3) (st := []) h [.inl l1] cv_X2_sizeOf wm_X1_41 (c_X2_sizeOf e8) ⟨rfl, rfl, Nat.le_of_ble_eq_true rfl, Nat.le_of_ble_eq_true rfl⟩ hshX_3 rfl rfl (Nat.le_of_ble_eq_true rfl) dX1_wigsOf_7 ?_
  refine r_istore_n (pc := 10) (L' := [some (.inr 7), some (.inl l1), some (.inl 0), some (.inl q7), none]) h dX1_wigsOf_10 (by decide) rfl ?_
  refine r_iconst (pc := 11) (v := 0) h dX1_wigsOf_11 (by decide) ?_
  refine r_istore (pc := 12) (L' := [some (.inr 7), some (.inl l1), some (.inl 0), some (.inl q7), some (.inl 0)]) h dX1_wigsOf_12 (by decide) rfl ?_
  exact w_X1_wigsOf_14 h hr FU _ _ _ _ hf
theorem c_X1_wigsOf {u : St} {l1 : Int32} {r : Int32} (hf : f_X1_wigsOf u l1 = some r) : CtI shX yX1_wigsOf cX1_wigsOf 5 (some .int) rm_X1_wigsOf [.inr 7, .inl l1] u r u := ct_I (by decide +kernel) (Nat.le_of_ble_eq_true rfl) (fun K E h hr => w_X1_wigsOf_0 h hr _ hf)
set_option maxRecDepth 100000 in
set_option maxHeartbeats 4000000 in
theorem w_X5_haveOnePlace_0 {K : Kx} {E : Ex} (h : Ok shX K E RX5 cX5_haveOnePlace 3 rm_X5_haveOnePlace) {r : Int32} {u : St} (hr : RetZ shX K E cX5_haveOnePlace 3 r u) (l1 l2 : Int32) (hf : f_X5_haveOnePlace u l1 l2 = some r) : Vd shX K E 3 0 [some (.inr 1), some (.inl l1), some (.inl l2)] [] u := by
  refine r_aload_n (pc := 0) h dX5_haveOnePlace_0 rfl ?_
  refine r_iload_n (pc := 1) h dX5_haveOnePlace_1 rfl ?_
  refine r_iconst (pc := 2) (v := 1) h dX5_haveOnePlace_2 (by decide) ?_
  refine p_b hf (fun q1 e2 hf => ?_)
  refine r_cVi (pc := 3) (k := 1) (st := []) h [.inl l1, .inl 1] cv_X5_fact wm_X5_55 (c_X5_fact e2) ⟨rfl, rfl, Nat.le_of_ble_eq_true rfl, Nat.le_of_ble_eq_true rfl⟩ hshX_1 rfl rfl (Nat.le_of_ble_eq_true rfl) dX5_haveOnePlace_3 ?_
  refine r_aload_n (pc := 6) h dX5_haveOnePlace_6 rfl ?_
  refine r_iload_n (pc := 7) h dX5_haveOnePlace_7 rfl ?_
  refine r_iconst (pc := 8) (v := 1) h dX5_haveOnePlace_8 (by decide) ?_
  refine p_b hf (fun q3 e4 hf => ?_)
  refine r_cVi (pc := 9) (k := 1) (st := [.inl q1]) h [.inl l2, .inl 1] cv_X5_fact wm_X5_55 (c_X5_fact e4) ⟨rfl, rfl, Nat.le_of_ble_eq_true rfl, Nat.le_of_ble_eq_true rfl⟩ hshX_1 rfl rfl (Nat.le_of_ble_eq_true rfl) dX5_haveOnePlace_9 ?_
  refine p_ite hf (fun hc5 hf => ?_) (fun hc5 hf => ?_)
  · refine r_icmp_ne (pc := 12) (tgt := 19) h dX5_haveOnePlace_12 (by decide) (fun q => absurd hc5 q) (fun _ => ?_)
    refine r_iconst (pc := 15) (v := 1) h dX5_haveOnePlace_15 (by decide) ?_
    refine r_goto (pc := 16) (tgt := 20) h dX5_haveOnePlace_16 (by decide) ?_
    have hf := Option.some.inj hf
    subst hf
    exact hr 20 _ dX5_haveOnePlace_20 z_1
  · refine r_icmp_ne (pc := 12) (tgt := 19) h dX5_haveOnePlace_12 (by decide) (fun _ => ?_) (fun q => absurd q hc5)
    refine r_iconst (pc := 19) (v := 0) h dX5_haveOnePlace_19 (by decide) ?_
    have hf := Option.some.inj hf
    subst hf
    exact hr 20 _ dX5_haveOnePlace_20 z_0
theorem c_X5_haveOnePlace {u : St} {l1 l2 : Int32} {r : Int32} (hf : f_X5_haveOnePlace u l1 l2 = some r) : CtI shX yX5_haveOnePlace cX5_haveOnePlace 3 (some .boolean) rm_X5_haveOnePlace [.inr 1, .inl l1, .inl l2] u r u := ct_Z (by decide +kernel) (Nat.le_of_ble_eq_true rfl) (fun K E h hr => w_X5_haveOnePlace_0 h hr _ _ hf)
set_option maxRecDepth 100000 in
set_option maxHeartbeats 4000000 in
theorem w_X1_aheadAtPlace_16 {K : Kx} {E : Ex} (h : Ok shX K E RX1 cX1_aheadAtPlace 6 rm_X1_aheadAtPlace) {r : Int32} {u : St} (hr : RetI shX K E cX1_aheadAtPlace 6 r u) : ∀ (n : Nat) (l1 l2 l3 l4 l5 : Int32), f_X1_aheadAtPlace_16 u n l1 l2 l3 l4 l5 = some r → Vd shX K E 6 16 [some (.inr 7), some (.inl l1), some (.inl l2), some (.inl l3), some (.inl l4), some (.inl l5)] [] u := by
  intro n
  induction n with
  | zero => intro l1 l2 l3 l4 l5 hf; cases hf
  | succ n ih =>
    intro l1 l2 l3 l4 l5 hf
    refine r_iload (pc := 16) h dX1_aheadAtPlace_16 rfl ?_
    refine r_iload_n (pc := 18) h dX1_aheadAtPlace_18 rfl ?_
    refine p_ite hf (fun hc1 hf => ?_) (fun hc1 hf => ?_)
    · refine r_icmp_ge (pc := 19) (tgt := 58) h dX1_aheadAtPlace_19 (by decide) (fun _ => ?_) (fun q => absurd hc1 q)
      refine r_iload (pc := 58) h dX1_aheadAtPlace_58 rfl ?_
      have hf := Option.some.inj hf
      subst hf
      exact hr 60 _ dX1_aheadAtPlace_60
    · refine r_icmp_ge (pc := 19) (tgt := 58) h dX1_aheadAtPlace_19 (by decide) (fun q => absurd q hc1) (fun _ => ?_)
      refine r_aload_n (pc := 22) h dX1_aheadAtPlace_22 rfl ?_
      refine gf_X1_33 (pc := 23) h dX1_aheadAtPlace_23 ?_
      refine r_aload_n (pc := 26) h dX1_aheadAtPlace_26 rfl ?_
      refine gf_X1_37 (pc := 27) h dX1_aheadAtPlace_27 ?_
      refine r_iload_n (pc := 30) h dX1_aheadAtPlace_30 rfl ?_
      refine r_iload (pc := 31) h dX1_aheadAtPlace_31 rfl ?_
      refine p_b hf (fun q2 e3 hf => ?_)
      refine r_cVi (pc := 33) (k := 3) (st := [.inr 1]) h [.inl l1, .inl l5] cv_X2_at wm_X1_79 (c_X2_at e3) ⟨rfl, rfl, Nat.le_of_ble_eq_true rfl, Nat.le_of_ble_eq_true rfl⟩ hshX_3 rfl rfl (Nat.le_of_ble_eq_true rfl) dX1_aheadAtPlace_33 ?_
      refine r_iload_n (pc := 36) h dX1_aheadAtPlace_36 rfl ?_
      refine p_b hf (fun q4 e5 hf => ?_)
      refine r_cVi (pc := 37) (k := 1) (st := []) h [.inl q2, .inl l3] cv_X5_haveOnePlace wm_X1_105 (c_X5_haveOnePlace e5) ⟨rfl, rfl, Nat.le_of_ble_eq_true rfl, Nat.le_of_ble_eq_true rfl⟩ hshX_1 rfl rfl (Nat.le_of_ble_eq_true rfl) dX1_aheadAtPlace_37 ?_
      refine p_ite hf (fun hc6 hf => ?_) (fun hc6 hf => ?_)
      · refine r_if_eq (pc := 40) (tgt := 52) h dX1_aheadAtPlace_40 (by decide) (fun _ => ?_) (fun q => absurd hc6 q)
        refine r_iinc (pc := 52) (v := (l5 + 1)) (L' := [some (.inr 7), some (.inl l1), some (.inl l2), some (.inl l3), some (.inl l4), some (.inl (l5 + 1))]) h dX1_aheadAtPlace_52 rfl rfl (by decide) rfl ?_
        refine r_goto (pc := 55) (tgt := 16) h dX1_aheadAtPlace_55 (by decide) ?_
        exact ih _ _ _ _ _ hf
      · refine r_if_eq (pc := 40) (tgt := 52) h dX1_aheadAtPlace_40 (by decide) (fun q => absurd q hc6) (fun _ => ?_)
        refine r_iload (pc := 43) h dX1_aheadAtPlace_43 rfl ?_
        refine r_iconst (pc := 45) (v := 1) h dX1_aheadAtPlace_45 (by decide) ?_
        refine r_iload (pc := 46) h dX1_aheadAtPlace_46 rfl ?_
        refine r_ishl (pc := 48) h dX1_aheadAtPlace_48 ?_
        refine r_ior (pc := 49) h dX1_aheadAtPlace_49 ?_
        refine r_istore (pc := 50) (L' := [some (.inr 7), some (.inl l1), some (.inl l2), some (.inl l3), some (.inl (l4 ||| (1 <<< (l5 &&& 31)))), some (.inl l5)]) h dX1_aheadAtPlace_50 (by decide) rfl ?_
        refine r_iinc (pc := 52) (v := (l5 + 1)) (L' := [some (.inr 7), some (.inl l1), some (.inl l2), some (.inl l3), some (.inl (l4 ||| (1 <<< (l5 &&& 31)))), some (.inl (l5 + 1))]) h dX1_aheadAtPlace_52 rfl rfl (by decide) rfl ?_
        refine r_goto (pc := 55) (tgt := 16) h dX1_aheadAtPlace_55 (by decide) ?_
        exact ih _ _ _ _ _ hf
set_option maxRecDepth 100000 in
set_option maxHeartbeats 4000000 in
theorem w_X1_aheadAtPlace_0 {K : Kx} {E : Ex} (h : Ok shX K E RX1 cX1_aheadAtPlace 6 rm_X1_aheadAtPlace) {r : Int32} {u : St} (hr : RetI shX K E cX1_aheadAtPlace 6 r u) (l1 l2 : Int32) (hf : f_X1_aheadAtPlace u l1 l2 = some r) : Vd shX K E 6 0 [some (.inr 7), some (.inl l1), some (.inl l2), none, none, none] [] u := by
  refine r_aload_n (pc := 0) h dX1_aheadAtPlace_0 rfl ?_
  refine gf_X1_37 (pc := 1) h dX1_aheadAtPlace_1 ?_
  refine r_iload_n (pc := 4) h dX1_aheadAtPlace_4 rfl ?_
  refine r_iload_n (pc := 5) h dX1_aheadAtPlace_5 rfl ?_
  refine p_b hf (fun q7 e8 hf => ?_)
  refine r_cVi (pc := 6) (k := 3) (st := []) h [.inl l1, .inl l2] cv_X2_at wm_X1_79 (c_X2_at e8) ⟨rfl, rfl, Nat.le_of_ble_eq_true rfl, Nat.le_of_ble_eq_true rfl⟩ hshX_3 rfl rfl (Nat.le_of_ble_eq_true rfl) dX1_aheadAtPlace_6 ?_
  refine r_istore_n (pc := 9) (L' := [some (.inr 7), some (.inl l1), some (.inl l2), some (.inl q7), none, none]) h dX1_aheadAtPlace_9 (by decide) rfl ?_
  refine r_iconst (pc := 10) (v := 0) h dX1_aheadAtPlace_10 (by decide) ?_
  refine r_istore (pc := 11) (L' := [some (.inr 7), some (.inl l1), some (.inl l2), some (.inl q7), some (.inl 0), none]) h dX1_aheadAtPlace_11 (by decide) rfl ?_
  refine r_iconst (pc := 13) (v := 0) h dX1_aheadAtPlace_13 (by decide) ?_
  refine r_istore (pc := 14) (L' := [some (.inr 7), some (.inl l1), some (.inl l2), some (.inl q7), some (.inl 0), some (.inl 0)]) h dX1_aheadAtPlace_14 (by decide) rfl ?_
  exact w_X1_aheadAtPlace_16 h hr FU _ _ _ _ _ hf
theorem c_X1_aheadAtPlace {u : St} {l1 l2 : Int32} {r : Int32} (hf : f_X1_aheadAtPlace u l1 l2 = some r) : CtI shX yX1_aheadAtPlace cX1_aheadAtPlace 6 (some .int) rm_X1_aheadAtPlace [.inr 7, .inl l1, .inl l2] u r u := ct_I (by decide +kernel) (Nat.le_of_ble_eq_true rfl) (fun K E h hr => w_X1_aheadAtPlace_0 h hr _ _ hf)
set_option maxRecDepth 100000 in
set_option maxHeartbeats 4000000 in
theorem w_X6_hasBit_0 {K : Kx} {E : Ex} (h : Ok shX K E RX6 cX6_hasBit 2 rm_X6_hasBit) {r : Int32} {u : St} (hr : RetZ shX K E cX6_hasBit 2 r u) (l0 l1 : Int32) (hf : f_X6_hasBit u l0 l1 = some r) : Vd shX K E 2 0 [some (.inl l0), some (.inl l1)] [] u := by
  refine r_iload_n (pc := 0) h dX6_hasBit_0 rfl ?_
  refine r_iload_n (pc := 1) h dX6_hasBit_1 rfl ?_
  refine r_iushr (pc := 2) h dX6_hasBit_2 ?_
  refine r_iconst (pc := 3) (v := 1) h dX6_hasBit_3 (by decide) ?_
  refine r_iand (pc := 4) h dX6_hasBit_4 ?_
  refine p_ite hf (fun hc1 hf => ?_) (fun hc1 hf => ?_)
  · refine r_if_eq (pc := 5) (tgt := 12) h dX6_hasBit_5 (by decide) (fun _ => ?_) (fun q => absurd hc1 q)
    refine r_iconst (pc := 12) (v := 0) h dX6_hasBit_12 (by decide) ?_
    have hf := Option.some.inj hf
    subst hf
    exact hr 13 _ dX6_hasBit_13 z_0
  · refine r_if_eq (pc := 5) (tgt := 12) h dX6_hasBit_5 (by decide) (fun q => absurd q hc1) (fun _ => ?_)
    refine r_iconst (pc := 8) (v := 1) h dX6_hasBit_8 (by decide) ?_
    refine r_goto (pc := 9) (tgt := 13) h dX6_hasBit_9 (by decide) ?_
    have hf := Option.some.inj hf
    subst hf
    exact hr 13 _ dX6_hasBit_13 z_1
theorem c_X6_hasBit {u : St} {l0 l1 : Int32} {r : Int32} (hf : f_X6_hasBit u l0 l1 = some r) : CtI shX yX6_hasBit cX6_hasBit 2 (some .boolean) rm_X6_hasBit [.inl l0, .inl l1] u r u := ct_Z (by decide +kernel) (Nat.le_of_ble_eq_true rfl) (fun K E h hr => w_X6_hasBit_0 h hr _ _ hf)
set_option maxRecDepth 100000 in
set_option maxHeartbeats 4000000 in
theorem w_X1_isWantedUnder_2 {K : Kx} {E : Ex} (h : Ok shX K E RX1 cX1_isWantedUnder 3 rm_X1_isWantedUnder) {r : Int32} {u : St} (hr : RetZ shX K E cX1_isWantedUnder 3 r u) : ∀ (n : Nat) (l1 l2 : Int32), f_X1_isWantedUnder_2 u n l1 l2 = some r → Vd shX K E 3 2 [some (.inr 7), some (.inl l1), some (.inl l2)] [] u := by
  intro n
  induction n with
  | zero => intro l1 l2 hf; cases hf
  | succ n ih =>
    intro l1 l2 hf
    refine r_iload_n (pc := 2) h dX1_isWantedUnder_2 rfl ?_
    refine r_iload_n (pc := 3) h dX1_isWantedUnder_3 rfl ?_
    refine p_ite hf (fun hc1 hf => ?_) (fun hc1 hf => ?_)
    · refine r_icmp_ge (pc := 4) (tgt := 43) h dX1_isWantedUnder_4 (by decide) (fun _ => ?_) (fun q => absurd hc1 q)
      refine r_iconst (pc := 43) (v := 0) h dX1_isWantedUnder_43 (by decide) ?_
      have hf := Option.some.inj hf
      subst hf
      exact hr 44 _ dX1_isWantedUnder_44 z_0
    · refine r_icmp_ge (pc := 4) (tgt := 43) h dX1_isWantedUnder_4 (by decide) (fun q => absurd q hc1) (fun _ => ?_)
      refine r_aload_n (pc := 7) h dX1_isWantedUnder_7 rfl ?_
      refine gf_X1_18 (pc := 8) h dX1_isWantedUnder_8 ?_
      refine r_iload_n (pc := 11) h dX1_isWantedUnder_11 rfl ?_
      refine p_g hf (fun hi2 hf => ?_)
      refine r_iald (pc := 12) (k := 10) (v := (u 10 l1.toNatClampNeg)) h hshX_10 hi2 rfl dX1_isWantedUnder_12 ?_
      refine r_iload_n (pc := 13) h dX1_isWantedUnder_13 rfl ?_
      refine p_b hf (fun q3 e4 hf => ?_)
      refine r_cNi (pc := 14) (st := []) h [.inl (u 10 l1.toNatClampNeg), .inl l2] cs_X6_hasBit nm_X1_97 (c_X6_hasBit e4) ⟨rfl, rfl, Nat.le_of_ble_eq_true rfl, Nat.le_of_ble_eq_true rfl⟩ (Nat.le_of_ble_eq_true rfl) dX1_isWantedUnder_14 ?_
      refine p_ite hf (fun hc5 hf => ?_) (fun hc5 hf => ?_)
      · refine r_if_eq (pc := 17) (tgt := 37) h dX1_isWantedUnder_17 (by decide) (fun _ => ?_) (fun q => absurd hc5 q)
        refine r_iinc (pc := 37) (v := (l2 + 1)) (L' := [some (.inr 7), some (.inl l1), some (.inl (l2 + 1))]) h dX1_isWantedUnder_37 rfl rfl (by decide) rfl ?_
        refine r_goto (pc := 40) (tgt := 2) h dX1_isWantedUnder_40 (by decide) ?_
        exact ih _ _ hf
      · refine r_if_eq (pc := 17) (tgt := 37) h dX1_isWantedUnder_17 (by decide) (fun q => absurd q hc5) (fun _ => ?_)
        refine r_aload_n (pc := 20) h dX1_isWantedUnder_20 rfl ?_
        refine gf_X1_9 (pc := 21) h dX1_isWantedUnder_21 ?_
        refine r_iload_n (pc := 24) h dX1_isWantedUnder_24 rfl ?_
        refine p_g hf (fun hi6 hf => ?_)
        refine r_iald (pc := 25) (k := 8) (v := (u 8 l2.toNatClampNeg)) h hshX_8 hi6 rfl dX1_isWantedUnder_25 ?_
        refine r_aload_n (pc := 26) h dX1_isWantedUnder_26 rfl ?_
        refine gf_X1_9 (pc := 27) h dX1_isWantedUnder_27 ?_
        refine r_iload_n (pc := 30) h dX1_isWantedUnder_30 rfl ?_
        refine r_iald (pc := 31) (k := 8) (v := (u 8 l1.toNatClampNeg)) h hshX_8 hi2 rfl dX1_isWantedUnder_31 ?_
        refine p_ite hf (fun hc7 hf => ?_) (fun hc7 hf => ?_)
        · refine r_icmp_le (pc := 32) (tgt := 37) h dX1_isWantedUnder_32 (by decide) (fun _ => ?_) (fun q => absurd hc7 q)
          refine r_iinc (pc := 37) (v := (l2 + 1)) (L' := [some (.inr 7), some (.inl l1), some (.inl (l2 + 1))]) h dX1_isWantedUnder_37 rfl rfl (by decide) rfl ?_
          refine r_goto (pc := 40) (tgt := 2) h dX1_isWantedUnder_40 (by decide) ?_
          exact ih _ _ hf
        · refine r_icmp_le (pc := 32) (tgt := 37) h dX1_isWantedUnder_32 (by decide) (fun q => absurd q hc7) (fun _ => ?_)
          refine r_iconst (pc := 35) (v := 1) h dX1_isWantedUnder_35 (by decide) ?_
          have hf := Option.some.inj hf
          subst hf
          exact hr 36 _ dX1_isWantedUnder_36 z_1
set_option maxRecDepth 100000 in
set_option maxHeartbeats 4000000 in
theorem w_X1_isWantedUnder_0 {K : Kx} {E : Ex} (h : Ok shX K E RX1 cX1_isWantedUnder 3 rm_X1_isWantedUnder) {r : Int32} {u : St} (hr : RetZ shX K E cX1_isWantedUnder 3 r u) (l1 : Int32) (hf : f_X1_isWantedUnder u l1 = some r) : Vd shX K E 3 0 [some (.inr 7), some (.inl l1), none] [] u := by
  refine r_iconst (pc := 0) (v := 0) h dX1_isWantedUnder_0 (by decide) ?_
  refine r_istore_n (pc := 1) (L' := [some (.inr 7), some (.inl l1), some (.inl 0)]) h dX1_isWantedUnder_1 (by decide) rfl ?_
  exact w_X1_isWantedUnder_2 h hr FU _ _ hf
theorem c_X1_isWantedUnder {u : St} {l1 : Int32} {r : Int32} (hf : f_X1_isWantedUnder u l1 = some r) : CtI shX yX1_isWantedUnder cX1_isWantedUnder 3 (some .boolean) rm_X1_isWantedUnder [.inr 7, .inl l1] u r u := ct_Z (by decide +kernel) (Nat.le_of_ble_eq_true rfl) (fun K E h hr => w_X1_isWantedUnder_0 h hr _ hf)
set_option maxRecDepth 100000 in
set_option maxHeartbeats 4000000 in
theorem w_X1_prepareWorn_72 {K : Kx} {E : Ex} (h : Ok shX K E RX1 cX1_prepareWorn 5 rm_X1_prepareWorn) {r : St} (hr : RetV shX K E cX1_prepareWorn 5 r) (u : St) (l3 : Int32) (hf : f_X1_prepareWorn_72 u l3 = some r) : Vd shX K E 5 72 [some (.inr 7), none, none, some (.inl l3), none] [] u := by
  refine r_aload_n (pc := 72) h dX1_prepareWorn_72 rfl ?_
  refine r_dup (pc := 73) h dX1_prepareWorn_73 ?_
  refine gf_X1_69 (pc := 74) (v := (u 7 6)) h rfl dX1_prepareWorn_74 ?_
  refine r_iconst (pc := 77) (v := 1) h dX1_prepareWorn_77 (by decide) ?_
  refine r_iload_n (pc := 78) h dX1_prepareWorn_78 rfl ?_
  refine r_ishl (pc := 79) h dX1_prepareWorn_79 ?_
  refine r_ior (pc := 80) h dX1_prepareWorn_80 ?_
  refine pf_X1_69 (pc := 81) h dX1_prepareWorn_81 ?_
  have hf := Option.some.inj hf
  subst hf
  exact hr 84 _ dX1_prepareWorn_84
set_option maxRecDepth 100000 in
set_option maxHeartbeats 4000000 in
theorem w_X1_prepareWorn_0 {K : Kx} {E : Ex} (h : Ok shX K E RX1 cX1_prepareWorn 5 rm_X1_prepareWorn) {r : St} (hr : RetV shX K E cX1_prepareWorn 5 r) (u : St) (l1 l2 l3 : Int32) (hf : f_X1_prepareWorn u l1 l2 l3 = some r) : Vd shX K E 5 0 [some (.inr 7), some (.inl l1), some (.inl l2), some (.inl l3), none] [] u := by
  refine r_aload_n (pc := 0) h dX1_prepareWorn_0 rfl ?_
  refine gf_X1_37 (pc := 1) h dX1_prepareWorn_1 ?_
  refine r_iload_n (pc := 4) h dX1_prepareWorn_4 rfl ?_
  refine r_iload_n (pc := 5) h dX1_prepareWorn_5 rfl ?_
  refine p_b hf (fun q1 e2 hf => ?_)
  refine r_cVi (pc := 6) (k := 3) (st := []) h [.inl l1, .inl l3] cv_X2_at wm_X1_79 (c_X2_at e2) ⟨rfl, rfl, Nat.le_of_ble_eq_true rfl, Nat.le_of_ble_eq_true rfl⟩ hshX_3 rfl rfl (Nat.le_of_ble_eq_true rfl) dX1_prepareWorn_6 ?_
  refine r_istore (pc := 9) (L' := [some (.inr 7), some (.inl l1), some (.inl l2), some (.inl l3), some (.inl q1)]) h dX1_prepareWorn_9 (by decide) rfl ?_
  refine r_aload_n (pc := 11) h dX1_prepareWorn_11 rfl ?_
  refine gf_X1_27 (pc := 12) h dX1_prepareWorn_12 ?_
  refine r_iload_n (pc := 15) h dX1_prepareWorn_15 rfl ?_
  refine r_aload_n (pc := 16) h dX1_prepareWorn_16 rfl ?_
  refine gf_X1_33 (pc := 17) h dX1_prepareWorn_17 ?_
  refine r_iload (pc := 20) h dX1_prepareWorn_20 rfl ?_
  refine r_iconst (pc := 22) (v := 4) h dX1_prepareWorn_22 (by decide) ?_
  refine p_b hf (fun q3 e4 hf => ?_)
  refine r_cVi (pc := 23) (k := 1) (st := [.inl l3, .inr 13]) h [.inl q1, .inl 4] cv_X5_fact wm_X1_82 (c_X5_fact e4) ⟨rfl, rfl, Nat.le_of_ble_eq_true rfl, Nat.le_of_ble_eq_true rfl⟩ hshX_1 rfl rfl (Nat.le_of_ble_eq_true rfl) dX1_prepareWorn_23 ?_
  refine p_g hf (fun hi5 hf => ?_)
  refine r_iast (pc := 26) (k := 13) h hshX_13 hi5 dX1_prepareWorn_26 ?_
  refine r_aload_n (pc := 27) h dX1_prepareWorn_27 rfl ?_
  refine gf_X1_9 (pc := 28) h dX1_prepareWorn_28 ?_
  refine r_iload_n (pc := 31) h dX1_prepareWorn_31 rfl ?_
  refine r_aload_n (pc := 32) h dX1_prepareWorn_32 rfl ?_
  refine gf_X1_37 (pc := 33) h dX1_prepareWorn_33 ?_
  refine r_iload_n (pc := 36) h dX1_prepareWorn_36 rfl ?_
  refine r_iload (pc := 37) h dX1_prepareWorn_37 rfl ?_
  refine p_b hf (fun q6 e7 hf => ?_)
  refine r_cVi (pc := 39) (k := 3) (st := [.inl l3, .inr 8]) h [.inl l2, .inl q1] cv_X2_indexOf wm_X1_87 (c_X2_indexOf e7) ⟨rfl, rfl, Nat.le_of_ble_eq_true rfl, Nat.le_of_ble_eq_true rfl⟩ hshX_3 rfl rfl (Nat.le_of_ble_eq_true rfl) dX1_prepareWorn_39 ?_
  refine r_iast (pc := 42) (k := 8) h hshX_8 hi5 dX1_prepareWorn_42 ?_
  refine r_aload_n (pc := 43) h dX1_prepareWorn_43 rfl ?_
  refine gf_X1_18 (pc := 44) h dX1_prepareWorn_44 ?_
  refine r_iload_n (pc := 47) h dX1_prepareWorn_47 rfl ?_
  refine r_aload_n (pc := 48) h dX1_prepareWorn_48 rfl ?_
  refine r_iload_n (pc := 49) h dX1_prepareWorn_49 rfl ?_
  refine r_iload_n (pc := 50) h dX1_prepareWorn_50 rfl ?_
  refine p_b hf (fun q8 e9 hf => ?_)
  refine r_cVi (pc := 51) (k := 7) (st := [.inl l3, .inr 10]) h [.inl l1, .inl l3] cv_X1_aheadAtPlace wm_X1_90 (c_X1_aheadAtPlace e9) ⟨rfl, rfl, Nat.le_of_ble_eq_true rfl, Nat.le_of_ble_eq_true rfl⟩ hshX_7 rfl rfl (Nat.le_of_ble_eq_true rfl) dX1_prepareWorn_51 ?_
  refine r_iast (pc := 54) (k := 10) h hshX_10 hi5 dX1_prepareWorn_54 ?_
  refine r_aload_n (pc := 55) h dX1_prepareWorn_55 rfl ?_
  refine gf_X1_9 (pc := 56) h dX1_prepareWorn_56 ?_
  refine r_iload_n (pc := 59) h dX1_prepareWorn_59 rfl ?_
  refine r_iald (pc := 60) (k := 8) (v := (upd (u 8) l3.toNatClampNeg q6 l3.toNatClampNeg)) h hshX_8 hi5 rfl dX1_prepareWorn_60 ?_
  refine p_ite hf (fun hc10 hf => ?_) (fun hc10 hf => ?_)
  · refine r_if_lt (pc := 61) (tgt := 72) h dX1_prepareWorn_61 (by decide) (fun _ => ?_) (fun q => absurd hc10 q)
    refine r_le [some (.inr 7), none, none, some (.inl l3), none] ⟨rfl, ⟨rfl, trivial⟩⟩ ?_
    exact w_X1_prepareWorn_72 h hr _ _ hf
  · refine r_if_lt (pc := 61) (tgt := 72) h dX1_prepareWorn_61 (by decide) (fun q => absurd q hc10) (fun _ => ?_)
    refine r_aload_n (pc := 64) h dX1_prepareWorn_64 rfl ?_
    refine r_iload_n (pc := 65) h dX1_prepareWorn_65 rfl ?_
    refine p_b hf (fun q11 e12 hf => ?_)
    refine r_cVi (pc := 66) (k := 7) (st := []) h [.inl l3] cv_X1_isWantedUnder wm_X1_93 (c_X1_isWantedUnder e12) ⟨rfl, rfl, Nat.le_of_ble_eq_true rfl, Nat.le_of_ble_eq_true rfl⟩ hshX_7 rfl rfl (Nat.le_of_ble_eq_true rfl) dX1_prepareWorn_66 ?_
    refine p_ite hf (fun hc13 hf => ?_) (fun hc13 hf => ?_)
    · refine r_if_eq (pc := 69) (tgt := 84) h dX1_prepareWorn_69 (by decide) (fun _ => ?_) (fun q => absurd hc13 q)
      have hf := Option.some.inj hf
      subst hf
      exact hr 84 _ dX1_prepareWorn_84
    · refine r_if_eq (pc := 69) (tgt := 84) h dX1_prepareWorn_69 (by decide) (fun q => absurd q hc13) (fun _ => ?_)
      refine r_le [some (.inr 7), none, none, some (.inl l3), none] ⟨rfl, ⟨rfl, trivial⟩⟩ ?_
      exact w_X1_prepareWorn_72 h hr _ _ hf
theorem c_X1_prepareWorn {u : St} {l1 l2 l3 : Int32} {r : St} (hf : f_X1_prepareWorn u l1 l2 l3 = some r) : CtV shX yX1_prepareWorn cX1_prepareWorn 5 none rm_X1_prepareWorn [.inr 7, .inl l1, .inl l2, .inl l3] u r := ct_V (by decide +kernel) (Nat.le_of_ble_eq_true rfl) (fun K E h hr => w_X1_prepareWorn_0 h hr _ _ _ _ hf)
set_option maxRecDepth 100000 in
set_option maxHeartbeats 4000000 in
theorem w_X1_thickBefore_6 {K : Kx} {E : Ex} (h : Ok shX K E RX1 cX1_thickBefore 7 rm_X1_thickBefore) {r : Int32} {u : St} (hr : RetI shX K E cX1_thickBefore 7 r u) : ∀ (n : Nat) (l1 l2 l3 l4 l5 : Int32), f_X1_thickBefore_6 u n l1 l2 l3 l4 l5 = some r → Vd shX K E 7 6 [some (.inr 7), some (.inl l1), some (.inl l2), some (.inl l3), some (.inl l4), some (.inl l5), none] [] u := by
  intro n
  induction n with
  | zero => intro l1 l2 l3 l4 l5 hf; cases hf
  | succ n ih =>
    intro l1 l2 l3 l4 l5 hf
    refine r_iload (pc := 6) h dX1_thickBefore_6 rfl ?_
    refine r_iload_n (pc := 8) h dX1_thickBefore_8 rfl ?_
    refine p_ite hf (fun hc1 hf => ?_) (fun hc1 hf => ?_)
    · refine r_icmp_ge (pc := 9) (tgt := 58) h dX1_thickBefore_9 (by decide) (fun _ => ?_) (fun q => absurd hc1 q)
      refine r_iload (pc := 58) h dX1_thickBefore_58 rfl ?_
      have hf := Option.some.inj hf
      subst hf
      exact hr 60 _ dX1_thickBefore_60
    · refine r_icmp_ge (pc := 9) (tgt := 58) h dX1_thickBefore_9 (by decide) (fun q => absurd q hc1) (fun _ => ?_)
      refine r_aload_n (pc := 12) h dX1_thickBefore_12 rfl ?_
      refine gf_X1_37 (pc := 13) h dX1_thickBefore_13 ?_
      refine r_iload_n (pc := 16) h dX1_thickBefore_16 rfl ?_
      refine r_iload (pc := 17) h dX1_thickBefore_17 rfl ?_
      refine p_b hf (fun q2 e3 hf => ?_)
      refine r_cVi (pc := 19) (k := 3) (st := []) h [.inl l1, .inl l5] cv_X2_at wm_X1_79 (c_X2_at e3) ⟨rfl, rfl, Nat.le_of_ble_eq_true rfl, Nat.le_of_ble_eq_true rfl⟩ hshX_3 rfl rfl (Nat.le_of_ble_eq_true rfl) dX1_thickBefore_19 ?_
      refine r_istore (pc := 22) (L' := [some (.inr 7), some (.inl l1), some (.inl l2), some (.inl l3), some (.inl l4), some (.inl l5), some (.inl q2)]) h dX1_thickBefore_22 (by decide) rfl ?_
      refine r_aload_n (pc := 24) h dX1_thickBefore_24 rfl ?_
      refine gf_X1_33 (pc := 25) h dX1_thickBefore_25 ?_
      refine r_iload (pc := 28) h dX1_thickBefore_28 rfl ?_
      refine r_iload_n (pc := 30) h dX1_thickBefore_30 rfl ?_
      refine p_b hf (fun q4 e5 hf => ?_)
      refine r_cVi (pc := 31) (k := 1) (st := []) h [.inl q2, .inl l3] cv_X5_haveOnePlace wm_X1_105 (c_X5_haveOnePlace e5) ⟨rfl, rfl, Nat.le_of_ble_eq_true rfl, Nat.le_of_ble_eq_true rfl⟩ hshX_1 rfl rfl (Nat.le_of_ble_eq_true rfl) dX1_thickBefore_31 ?_
      refine p_ite hf (fun hc6 hf => ?_) (fun hc6 hf => ?_)
      · refine r_if_eq (pc := 34) (tgt := 52) h dX1_thickBefore_34 (by decide) (fun _ => ?_) (fun q => absurd hc6 q)
        refine r_iinc (pc := 52) (v := (l5 + 1)) (L' := [some (.inr 7), some (.inl l1), some (.inl l2), some (.inl l3), some (.inl l4), some (.inl (l5 + 1)), some (.inl q2)]) h dX1_thickBefore_52 rfl rfl (by decide) rfl ?_
        refine r_goto (pc := 55) (tgt := 6) h dX1_thickBefore_55 (by decide) ?_
        refine r_le [some (.inr 7), some (.inl l1), some (.inl l2), some (.inl l3), some (.inl l4), some (.inl (l5 + 1)), none] ⟨rfl, ⟨rfl, ⟨rfl, ⟨rfl, ⟨rfl, ⟨rfl, trivial⟩⟩⟩⟩⟩⟩ ?_
        exact ih _ _ _ _ _ hf
      · refine r_if_eq (pc := 34) (tgt := 52) h dX1_thickBefore_34 (by decide) (fun q => absurd q hc6) (fun _ => ?_)
        refine r_iload (pc := 37) h dX1_thickBefore_37 rfl ?_
        refine r_aload_n (pc := 39) h dX1_thickBefore_39 rfl ?_
        refine gf_X1_33 (pc := 40) h dX1_thickBefore_40 ?_
        refine r_iload (pc := 43) h dX1_thickBefore_43 rfl ?_
        refine r_iconst (pc := 45) (v := 2) h dX1_thickBefore_45 (by decide) ?_
        refine p_b hf (fun q7 e8 hf => ?_)
        refine r_cVi (pc := 46) (k := 1) (st := [.inl l4]) h [.inl q2, .inl 2] cv_X5_fact wm_X1_82 (c_X5_fact e8) ⟨rfl, rfl, Nat.le_of_ble_eq_true rfl, Nat.le_of_ble_eq_true rfl⟩ hshX_1 rfl rfl (Nat.le_of_ble_eq_true rfl) dX1_thickBefore_46 ?_
        refine r_iadd (pc := 49) h dX1_thickBefore_49 ?_
        refine r_istore (pc := 50) (L' := [some (.inr 7), some (.inl l1), some (.inl l2), some (.inl l3), some (.inl (l4 + q7)), some (.inl l5), some (.inl q2)]) h dX1_thickBefore_50 (by decide) rfl ?_
        refine r_iinc (pc := 52) (v := (l5 + 1)) (L' := [some (.inr 7), some (.inl l1), some (.inl l2), some (.inl l3), some (.inl (l4 + q7)), some (.inl (l5 + 1)), some (.inl q2)]) h dX1_thickBefore_52 rfl rfl (by decide) rfl ?_
        refine r_goto (pc := 55) (tgt := 6) h dX1_thickBefore_55 (by decide) ?_
        refine r_le [some (.inr 7), some (.inl l1), some (.inl l2), some (.inl l3), some (.inl (l4 + q7)), some (.inl (l5 + 1)), none] ⟨rfl, ⟨rfl, ⟨rfl, ⟨rfl, ⟨rfl, ⟨rfl, trivial⟩⟩⟩⟩⟩⟩ ?_
        exact ih _ _ _ _ _ hf
set_option maxRecDepth 100000 in
set_option maxHeartbeats 4000000 in
theorem w_X1_thickBefore_0 {K : Kx} {E : Ex} (h : Ok shX K E RX1 cX1_thickBefore 7 rm_X1_thickBefore) {r : Int32} {u : St} (hr : RetI shX K E cX1_thickBefore 7 r u) (l1 l2 l3 : Int32) (hf : f_X1_thickBefore u l1 l2 l3 = some r) : Vd shX K E 7 0 [some (.inr 7), some (.inl l1), some (.inl l2), some (.inl l3), none, none, none] [] u := by
  refine r_iconst (pc := 0) (v := 0) h dX1_thickBefore_0 (by decide) ?_
  refine r_istore (pc := 1) (L' := [some (.inr 7), some (.inl l1), some (.inl l2), some (.inl l3), some (.inl 0), none, none]) h dX1_thickBefore_1 (by decide) rfl ?_
  refine r_iconst (pc := 3) (v := 0) h dX1_thickBefore_3 (by decide) ?_
  refine r_istore (pc := 4) (L' := [some (.inr 7), some (.inl l1), some (.inl l2), some (.inl l3), some (.inl 0), some (.inl 0), none]) h dX1_thickBefore_4 (by decide) rfl ?_
  exact w_X1_thickBefore_6 h hr FU _ _ _ _ _ hf
theorem c_X1_thickBefore {u : St} {l1 l2 l3 : Int32} {r : Int32} (hf : f_X1_thickBefore u l1 l2 l3 = some r) : CtI shX yX1_thickBefore cX1_thickBefore 7 (some .int) rm_X1_thickBefore [.inr 7, .inl l1, .inl l2, .inl l3] u r u := ct_I (by decide +kernel) (Nat.le_of_ble_eq_true rfl) (fun K E h hr => w_X1_thickBefore_0 h hr _ _ _ hf)
set_option maxRecDepth 100000 in
set_option maxHeartbeats 4000000 in
theorem w_X1_prepareWanted_0 {K : Kx} {E : Ex} (h : Ok shX K E RX1 cX1_prepareWanted 5 rm_X1_prepareWanted) {r : St} (hr : RetV shX K E cX1_prepareWanted 5 r) (u : St) (l1 l2 l3 : Int32) (hf : f_X1_prepareWanted u l1 l2 l3 = some r) : Vd shX K E 5 0 [some (.inr 7), some (.inl l1), some (.inl l2), some (.inl l3), none] [] u := by
  refine r_aload_n (pc := 0) h dX1_prepareWanted_0 rfl ?_
  refine gf_X1_37 (pc := 1) h dX1_prepareWanted_1 ?_
  refine r_iload_n (pc := 4) h dX1_prepareWanted_4 rfl ?_
  refine r_iload_n (pc := 5) h dX1_prepareWanted_5 rfl ?_
  refine p_b hf (fun q1 e2 hf => ?_)
  refine r_cVi (pc := 6) (k := 3) (st := []) h [.inl l2, .inl l3] cv_X2_at wm_X1_79 (c_X2_at e2) ⟨rfl, rfl, Nat.le_of_ble_eq_true rfl, Nat.le_of_ble_eq_true rfl⟩ hshX_3 rfl rfl (Nat.le_of_ble_eq_true rfl) dX1_prepareWanted_6 ?_
  refine r_istore (pc := 9) (L' := [some (.inr 7), some (.inl l1), some (.inl l2), some (.inl l3), some (.inl q1)]) h dX1_prepareWanted_9 (by decide) rfl ?_
  refine r_aload_n (pc := 11) h dX1_prepareWanted_11 rfl ?_
  refine gf_X1_30 (pc := 12) h dX1_prepareWanted_12 ?_
  refine r_iload_n (pc := 15) h dX1_prepareWanted_15 rfl ?_
  refine r_aload_n (pc := 16) h dX1_prepareWanted_16 rfl ?_
  refine gf_X1_33 (pc := 17) h dX1_prepareWanted_17 ?_
  refine r_iload (pc := 20) h dX1_prepareWanted_20 rfl ?_
  refine r_iconst (pc := 22) (v := 3) h dX1_prepareWanted_22 (by decide) ?_
  refine p_b hf (fun q3 e4 hf => ?_)
  refine r_cVi (pc := 23) (k := 1) (st := [.inl l3, .inr 14]) h [.inl q1, .inl 3] cv_X5_fact wm_X1_82 (c_X5_fact e4) ⟨rfl, rfl, Nat.le_of_ble_eq_true rfl, Nat.le_of_ble_eq_true rfl⟩ hshX_1 rfl rfl (Nat.le_of_ble_eq_true rfl) dX1_prepareWanted_23 ?_
  refine p_g hf (fun hi5 hf => ?_)
  refine r_iast (pc := 26) (k := 14) h hshX_14 hi5 dX1_prepareWanted_26 ?_
  refine r_aload_n (pc := 27) h dX1_prepareWanted_27 rfl ?_
  refine gf_X1_15 (pc := 28) h dX1_prepareWanted_28 ?_
  refine r_iload_n (pc := 31) h dX1_prepareWanted_31 rfl ?_
  refine r_aload_n (pc := 32) h dX1_prepareWanted_32 rfl ?_
  refine gf_X1_37 (pc := 33) h dX1_prepareWanted_33 ?_
  refine r_iload_n (pc := 36) h dX1_prepareWanted_36 rfl ?_
  refine r_iload (pc := 37) h dX1_prepareWanted_37 rfl ?_
  refine p_b hf (fun q6 e7 hf => ?_)
  refine r_cVi (pc := 39) (k := 3) (st := [.inl l3, .inr 9]) h [.inl l1, .inl q1] cv_X2_indexOf wm_X1_87 (c_X2_indexOf e7) ⟨rfl, rfl, Nat.le_of_ble_eq_true rfl, Nat.le_of_ble_eq_true rfl⟩ hshX_3 rfl rfl (Nat.le_of_ble_eq_true rfl) dX1_prepareWanted_39 ?_
  refine r_iast (pc := 42) (k := 9) h hshX_9 hi5 dX1_prepareWanted_42 ?_
  refine r_aload_n (pc := 43) h dX1_prepareWanted_43 rfl ?_
  refine gf_X1_21 (pc := 44) h dX1_prepareWanted_44 ?_
  refine r_iload_n (pc := 47) h dX1_prepareWanted_47 rfl ?_
  refine r_aload_n (pc := 48) h dX1_prepareWanted_48 rfl ?_
  refine r_iload_n (pc := 49) h dX1_prepareWanted_49 rfl ?_
  refine r_iload_n (pc := 50) h dX1_prepareWanted_50 rfl ?_
  refine p_b hf (fun q8 e9 hf => ?_)
  refine r_cVi (pc := 51) (k := 7) (st := [.inl l3, .inr 11]) h [.inl l2, .inl l3] cv_X1_aheadAtPlace wm_X1_90 (c_X1_aheadAtPlace e9) ⟨rfl, rfl, Nat.le_of_ble_eq_true rfl, Nat.le_of_ble_eq_true rfl⟩ hshX_7 rfl rfl (Nat.le_of_ble_eq_true rfl) dX1_prepareWanted_51 ?_
  refine r_iast (pc := 54) (k := 11) h hshX_11 hi5 dX1_prepareWanted_54 ?_
  refine r_aload_n (pc := 55) h dX1_prepareWanted_55 rfl ?_
  refine gf_X1_24 (pc := 56) h dX1_prepareWanted_56 ?_
  refine r_iload_n (pc := 59) h dX1_prepareWanted_59 rfl ?_
  refine r_aload_n (pc := 60) h dX1_prepareWanted_60 rfl ?_
  refine r_iload_n (pc := 61) h dX1_prepareWanted_61 rfl ?_
  refine r_aload_n (pc := 62) h dX1_prepareWanted_62 rfl ?_
  refine gf_X1_53 (pc := 63) (v := (u 7 2)) h rfl dX1_prepareWanted_63 ?_
  refine r_iload (pc := 66) h dX1_prepareWanted_66 rfl ?_
  refine p_b hf (fun q10 e11 hf => ?_)
  refine r_cVi (pc := 68) (k := 7) (st := [.inl l3, .inr 12]) h [.inl l1, .inl (u 7 2), .inl q1] cv_X1_thickBefore wm_X1_101 (c_X1_thickBefore e11) ⟨rfl, rfl, Nat.le_of_ble_eq_true rfl, Nat.le_of_ble_eq_true rfl⟩ hshX_7 rfl rfl (Nat.le_of_ble_eq_true rfl) dX1_prepareWanted_68 ?_
  refine r_aload_n (pc := 71) h dX1_prepareWanted_71 rfl ?_
  refine r_iload_n (pc := 72) h dX1_prepareWanted_72 rfl ?_
  refine r_iload_n (pc := 73) h dX1_prepareWanted_73 rfl ?_
  refine r_iload (pc := 74) h dX1_prepareWanted_74 rfl ?_
  refine p_b hf (fun q12 e13 hf => ?_)
  refine r_cVi (pc := 76) (k := 7) (st := [.inl q10, .inl l3, .inr 12]) h [.inl l2, .inl l3, .inl q1] cv_X1_thickBefore wm_X1_101 (c_X1_thickBefore e13) ⟨rfl, rfl, Nat.le_of_ble_eq_true rfl, Nat.le_of_ble_eq_true rfl⟩ hshX_7 rfl rfl (Nat.le_of_ble_eq_true rfl) dX1_prepareWanted_76 ?_
  refine r_iadd (pc := 79) h dX1_prepareWanted_79 ?_
  refine r_aload_n (pc := 80) h dX1_prepareWanted_80 rfl ?_
  refine gf_X1_33 (pc := 81) h dX1_prepareWanted_81 ?_
  refine r_iload (pc := 84) h dX1_prepareWanted_84 rfl ?_
  refine r_iconst (pc := 86) (v := 2) h dX1_prepareWanted_86 (by decide) ?_
  refine p_b hf (fun q14 e15 hf => ?_)
  refine r_cVi (pc := 87) (k := 1) (st := [.inl (q10 + q12), .inl l3, .inr 12]) h [.inl q1, .inl 2] cv_X5_fact wm_X1_82 (c_X5_fact e15) ⟨rfl, rfl, Nat.le_of_ble_eq_true rfl, Nat.le_of_ble_eq_true rfl⟩ hshX_1 rfl rfl (Nat.le_of_ble_eq_true rfl) dX1_prepareWanted_87 ?_
  refine r_iadd (pc := 90) h dX1_prepareWanted_90 ?_
  refine r_iast (pc := 91) (k := 12) h hshX_12 hi5 dX1_prepareWanted_91 ?_
  have hf := Option.some.inj hf
  subst hf
  exact hr 92 _ dX1_prepareWanted_92
theorem c_X1_prepareWanted {u : St} {l1 l2 l3 : Int32} {r : St} (hf : f_X1_prepareWanted u l1 l2 l3 = some r) : CtV shX yX1_prepareWanted cX1_prepareWanted 5 none rm_X1_prepareWanted [.inr 7, .inl l1, .inl l2, .inl l3] u r := ct_V (by decide +kernel) (Nat.le_of_ble_eq_true rfl) (fun K E h hr => w_X1_prepareWanted_0 h hr _ _ _ _ hf)
set_option maxRecDepth 100000 in
set_option maxHeartbeats 4000000 in
theorem w_X1_prepare_82 {K : Kx} {E : Ex} (h : Ok shX K E RX1 cX1_prepare 4 rm_X1_prepare) {r : St} (hr : RetV shX K E cX1_prepare 4 r) : ∀ (n : Nat) (u : St) (l1 l2 l3 : Int32), f_X1_prepare_82 n u l1 l2 l3 = some r → Vd shX K E 4 82 [some (.inr 7), some (.inl l1), some (.inl l2), some (.inl l3)] [] u := by
  intro n
  induction n with
  | zero => intro u l1 l2 l3 hf; cases hf
  | succ n ih =>
    intro u l1 l2 l3 hf
    refine r_iload_n (pc := 82) h dX1_prepare_82 rfl ?_
    refine r_aload_n (pc := 83) h dX1_prepare_83 rfl ?_
    refine gf_X1_57 (pc := 84) (v := (u 7 3)) h rfl dX1_prepare_84 ?_
    refine p_ite hf (fun hc1 hf => ?_) (fun hc1 hf => ?_)
    · refine r_icmp_ge (pc := 87) (tgt := 103) h dX1_prepare_87 (by decide) (fun _ => ?_) (fun q => absurd hc1 q)
      have hf := Option.some.inj hf
      subst hf
      exact hr 103 _ dX1_prepare_103
    · refine r_icmp_ge (pc := 87) (tgt := 103) h dX1_prepare_87 (by decide) (fun q => absurd q hc1) (fun _ => ?_)
      refine r_aload_n (pc := 90) h dX1_prepare_90 rfl ?_
      refine r_iload_n (pc := 91) h dX1_prepare_91 rfl ?_
      refine r_iload_n (pc := 92) h dX1_prepare_92 rfl ?_
      refine r_iload_n (pc := 93) h dX1_prepare_93 rfl ?_
      refine p_b hf (fun q2 e3 hf => ?_)
      refine r_cVv (pc := 94) (k := 7) (st := []) h [.inl l1, .inl l2, .inl l3] cv_X1_prepareWanted wm_X1_76 (c_X1_prepareWanted e3) ⟨rfl, rfl, Nat.le_of_ble_eq_true rfl, Nat.le_of_ble_eq_true rfl⟩ hshX_7 rfl rfl (Nat.le_of_ble_eq_true rfl) dX1_prepare_94 ?_
      refine r_iinc (pc := 97) (v := (l3 + 1)) (L' := [some (.inr 7), some (.inl l1), some (.inl l2), some (.inl (l3 + 1))]) h dX1_prepare_97 rfl rfl (by decide) rfl ?_
      refine r_goto (pc := 100) (tgt := 82) h dX1_prepare_100 (by decide) ?_
      exact ih _ _ _ _ hf
set_option maxRecDepth 100000 in
set_option maxHeartbeats 4000000 in
theorem w_X1_prepare_59 {K : Kx} {E : Ex} (h : Ok shX K E RX1 cX1_prepare 4 rm_X1_prepare) {r : St} (hr : RetV shX K E cX1_prepare 4 r) : ∀ (n : Nat) (u : St) (l1 l2 l3 : Int32), f_X1_prepare_59 n u l1 l2 l3 = some r → Vd shX K E 4 59 [some (.inr 7), some (.inl l1), some (.inl l2), some (.inl l3)] [] u := by
  intro n
  induction n with
  | zero => intro u l1 l2 l3 hf; cases hf
  | succ n ih =>
    intro u l1 l2 l3 hf
    refine r_iload_n (pc := 59) h dX1_prepare_59 rfl ?_
    refine r_aload_n (pc := 60) h dX1_prepare_60 rfl ?_
    refine gf_X1_53 (pc := 61) (v := (u 7 2)) h rfl dX1_prepare_61 ?_
    refine p_ite hf (fun hc4 hf => ?_) (fun hc4 hf => ?_)
    · refine r_icmp_ge (pc := 64) (tgt := 80) h dX1_prepare_64 (by decide) (fun _ => ?_) (fun q => absurd hc4 q)
      refine r_iconst (pc := 80) (v := 0) h dX1_prepare_80 (by decide) ?_
      refine r_istore_n (pc := 81) (L' := [some (.inr 7), some (.inl l1), some (.inl l2), some (.inl 0)]) h dX1_prepare_81 (by decide) rfl ?_
      exact w_X1_prepare_82 h hr FU _ _ _ _ hf
    · refine r_icmp_ge (pc := 64) (tgt := 80) h dX1_prepare_64 (by decide) (fun q => absurd q hc4) (fun _ => ?_)
      refine r_aload_n (pc := 67) h dX1_prepare_67 rfl ?_
      refine r_iload_n (pc := 68) h dX1_prepare_68 rfl ?_
      refine r_iload_n (pc := 69) h dX1_prepare_69 rfl ?_
      refine r_iload_n (pc := 70) h dX1_prepare_70 rfl ?_
      refine p_b hf (fun q5 e6 hf => ?_)
      refine r_cVv (pc := 71) (k := 7) (st := []) h [.inl l1, .inl l2, .inl l3] cv_X1_prepareWorn wm_X1_72 (c_X1_prepareWorn e6) ⟨rfl, rfl, Nat.le_of_ble_eq_true rfl, Nat.le_of_ble_eq_true rfl⟩ hshX_7 rfl rfl (Nat.le_of_ble_eq_true rfl) dX1_prepare_71 ?_
      refine r_iinc (pc := 74) (v := (l3 + 1)) (L' := [some (.inr 7), some (.inl l1), some (.inl l2), some (.inl (l3 + 1))]) h dX1_prepare_74 rfl rfl (by decide) rfl ?_
      refine r_goto (pc := 77) (tgt := 59) h dX1_prepare_77 (by decide) ?_
      exact ih _ _ _ _ hf
set_option maxRecDepth 100000 in
set_option maxHeartbeats 4000000 in
theorem w_X1_prepare_0 {K : Kx} {E : Ex} (h : Ok shX K E RX1 cX1_prepare 4 rm_X1_prepare) {r : St} (hr : RetV shX K E cX1_prepare 4 r) (u : St) (l1 l2 : Int32) (hf : f_X1_prepare u l1 l2 = some r) : Vd shX K E 4 0 [some (.inr 7), some (.inl l1), some (.inl l2), none] [] u := by
  refine r_aload_n (pc := 0) h dX1_prepare_0 rfl ?_
  refine r_bipush (pc := 1) (v := 8) h dX1_prepare_1 (by decide) ?_
  refine r_aload_n (pc := 3) h dX1_prepare_3 rfl ?_
  refine gf_X1_37 (pc := 4) h dX1_prepare_4 ?_
  refine r_iload_n (pc := 7) h dX1_prepare_7 rfl ?_
  refine p_b hf (fun q7 e8 hf => ?_)
  refine r_cVi (pc := 8) (k := 3) (st := [.inl 8, .inr 7]) h [.inl l1] cv_X2_sizeOf wm_X1_41 (c_X2_sizeOf e8) ⟨rfl, rfl, Nat.le_of_ble_eq_true rfl, Nat.le_of_ble_eq_true rfl⟩ hshX_3 rfl rfl (Nat.le_of_ble_eq_true rfl) dX1_prepare_8 ?_
  refine r_mmin (pc := 11) (st := [.inr 7]) h wm_X1_47 ⟨Nat.le_of_ble_eq_true rfl, Nat.le_of_ble_eq_true rfl⟩ dX1_prepare_11 ?_
  refine pf_X1_53 (pc := 14) h dX1_prepare_14 ?_
  refine r_aload_n (pc := 17) h dX1_prepare_17 rfl ?_
  refine r_bipush (pc := 18) (v := 8) h dX1_prepare_18 (by decide) ?_
  refine r_aload_n (pc := 20) h dX1_prepare_20 rfl ?_
  refine gf_X1_37 (pc := 21) h dX1_prepare_21 ?_
  refine r_iload_n (pc := 24) h dX1_prepare_24 rfl ?_
  refine p_b hf (fun q9 e10 hf => ?_)
  refine r_cVi (pc := 25) (k := 3) (st := [.inl 8, .inr 7]) h [.inl l2] cv_X2_sizeOf wm_X1_41 (c_X2_sizeOf e10) ⟨rfl, rfl, Nat.le_of_ble_eq_true rfl, Nat.le_of_ble_eq_true rfl⟩ hshX_3 rfl rfl (Nat.le_of_ble_eq_true rfl) dX1_prepare_25 ?_
  refine r_mmin (pc := 28) (st := [.inr 7]) h wm_X1_47 ⟨Nat.le_of_ble_eq_true rfl, Nat.le_of_ble_eq_true rfl⟩ dX1_prepare_28 ?_
  refine pf_X1_57 (pc := 31) h dX1_prepare_31 ?_
  refine r_aload_n (pc := 34) h dX1_prepare_34 rfl ?_
  refine r_aload_n (pc := 35) h dX1_prepare_35 rfl ?_
  refine r_iload_n (pc := 36) h dX1_prepare_36 rfl ?_
  refine p_b hf (fun q11 e12 hf => ?_)
  refine r_cVi (pc := 37) (k := 7) (st := [.inr 7]) h [.inl l1] cv_X1_wigsOf wm_X1_60 (c_X1_wigsOf e12) ⟨rfl, rfl, Nat.le_of_ble_eq_true rfl, Nat.le_of_ble_eq_true rfl⟩ hshX_7 rfl rfl (Nat.le_of_ble_eq_true rfl) dX1_prepare_37 ?_
  refine pf_X1_63 (pc := 40) h dX1_prepare_40 ?_
  refine r_aload_n (pc := 43) h dX1_prepare_43 rfl ?_
  refine r_aload_n (pc := 44) h dX1_prepare_44 rfl ?_
  refine r_iload_n (pc := 45) h dX1_prepare_45 rfl ?_
  refine p_b hf (fun q13 e14 hf => ?_)
  refine r_cVi (pc := 46) (k := 7) (st := [.inr 7]) h [.inl l2] cv_X1_wigsOf wm_X1_60 (c_X1_wigsOf e14) ⟨rfl, rfl, Nat.le_of_ble_eq_true rfl, Nat.le_of_ble_eq_true rfl⟩ hshX_7 rfl rfl (Nat.le_of_ble_eq_true rfl) dX1_prepare_46 ?_
  refine pf_X1_66 (pc := 49) h dX1_prepare_49 ?_
  refine r_aload_n (pc := 52) h dX1_prepare_52 rfl ?_
  refine r_iconst (pc := 53) (v := 0) h dX1_prepare_53 (by decide) ?_
  refine pf_X1_69 (pc := 54) h dX1_prepare_54 ?_
  refine r_iconst (pc := 57) (v := 0) h dX1_prepare_57 (by decide) ?_
  refine r_istore_n (pc := 58) (L' := [some (.inr 7), some (.inl l1), some (.inl l2), some (.inl 0)]) h dX1_prepare_58 (by decide) rfl ?_
  exact w_X1_prepare_59 h hr FU _ _ _ _ hf
theorem c_X1_prepare {u : St} {l1 l2 : Int32} {r : St} (hf : f_X1_prepare u l1 l2 = some r) : CtV shX yX1_prepare cX1_prepare 4 none rm_X1_prepare [.inr 7, .inl l1, .inl l2] u r := ct_V (by decide +kernel) (Nat.le_of_ble_eq_true rfl) (fun K E h hr => w_X1_prepare_0 h hr _ _ _ hf)
set_option maxRecDepth 100000 in
set_option maxHeartbeats 4000000 in
theorem w_X1_mayLieBeneath_2 {K : Kx} {E : Ex} (h : Ok shX K E RX1 cX1_mayLieBeneath 4 rm_X1_mayLieBeneath) {r : Int32} {u : St} (hr : RetZ shX K E cX1_mayLieBeneath 4 r u) : ∀ (n : Nat) (l1 l2 l3 : Int32), f_X1_mayLieBeneath_2 u n l1 l2 l3 = some r → Vd shX K E 4 2 [some (.inr 7), some (.inl l1), some (.inl l2), some (.inl l3)] [] u := by
  intro n
  induction n with
  | zero => intro l1 l2 l3 hf; cases hf
  | succ n ih =>
    intro l1 l2 l3 hf
    refine r_iload_n (pc := 2) h dX1_mayLieBeneath_2 rfl ?_
    refine r_aload_n (pc := 3) h dX1_mayLieBeneath_3 rfl ?_
    refine gf_X1_57 (pc := 4) (v := (u 7 3)) h rfl dX1_mayLieBeneath_4 ?_
    refine p_ite hf (fun hc1 hf => ?_) (fun hc1 hf => ?_)
    · refine r_icmp_ge (pc := 7) (tgt := 58) h dX1_mayLieBeneath_7 (by decide) (fun _ => ?_) (fun q => absurd hc1 q)
      refine r_iconst (pc := 58) (v := 1) h dX1_mayLieBeneath_58 (by decide) ?_
      have hf := Option.some.inj hf
      subst hf
      exact hr 59 _ dX1_mayLieBeneath_59 z_1
    · refine r_icmp_ge (pc := 7) (tgt := 58) h dX1_mayLieBeneath_7 (by decide) (fun q => absurd q hc1) (fun _ => ?_)
      refine r_iload_n (pc := 10) h dX1_mayLieBeneath_10 rfl ?_
      refine r_iload_n (pc := 11) h dX1_mayLieBeneath_11 rfl ?_
      refine p_b hf (fun q2 e3 hf => ?_)
      refine r_cNi (pc := 12) (st := []) h [.inl l1, .inl l3] cs_X6_hasBit nm_X1_97 (c_X6_hasBit e3) ⟨rfl, rfl, Nat.le_of_ble_eq_true rfl, Nat.le_of_ble_eq_true rfl⟩ (Nat.le_of_ble_eq_true rfl) dX1_mayLieBeneath_12 ?_
      refine p_ite hf (fun hc4 hf => ?_) (fun hc4 hf => ?_)
      · refine r_if_eq (pc := 15) (tgt := 52) h dX1_mayLieBeneath_15 (by decide) (fun _ => ?_) (fun q => absurd hc4 q)
        refine r_iinc (pc := 52) (v := (l3 + 1)) (L' := [some (.inr 7), some (.inl l1), some (.inl l2), some (.inl (l3 + 1))]) h dX1_mayLieBeneath_52 rfl rfl (by decide) rfl ?_
        refine r_goto (pc := 55) (tgt := 2) h dX1_mayLieBeneath_55 (by decide) ?_
        exact ih _ _ _ hf
      · refine r_if_eq (pc := 15) (tgt := 52) h dX1_mayLieBeneath_15 (by decide) (fun q => absurd q hc4) (fun _ => ?_)
        refine r_aload_n (pc := 18) h dX1_mayLieBeneath_18 rfl ?_
        refine gf_X1_15 (pc := 19) h dX1_mayLieBeneath_19 ?_
        refine r_iload_n (pc := 22) h dX1_mayLieBeneath_22 rfl ?_
        refine p_g hf (fun hi5 hf => ?_)
        refine r_iald (pc := 23) (k := 9) (v := (u 9 l3.toNatClampNeg)) h hshX_9 hi5 rfl dX1_mayLieBeneath_23 ?_
        refine p_ite hf (fun hc6 hf => ?_) (fun hc6 hf => ?_)
        · refine r_if_ge (pc := 24) (tgt := 50) h dX1_mayLieBeneath_24 (by decide) (fun _ => ?_) (fun q => absurd hc6 q)
          refine r_iconst (pc := 50) (v := 0) h dX1_mayLieBeneath_50 (by decide) ?_
          have hf := Option.some.inj hf
          subst hf
          exact hr 51 _ dX1_mayLieBeneath_51 z_0
        · refine r_if_ge (pc := 24) (tgt := 50) h dX1_mayLieBeneath_24 (by decide) (fun q => absurd q hc6) (fun _ => ?_)
          refine r_aload_n (pc := 27) h dX1_mayLieBeneath_27 rfl ?_
          refine gf_X1_21 (pc := 28) h dX1_mayLieBeneath_28 ?_
          refine r_iload_n (pc := 31) h dX1_mayLieBeneath_31 rfl ?_
          refine r_iald (pc := 32) (k := 11) (v := (u 11 l3.toNatClampNeg)) h hshX_11 hi5 rfl dX1_mayLieBeneath_32 ?_
          refine r_iload_n (pc := 33) h dX1_mayLieBeneath_33 rfl ?_
          refine r_iconst (pc := 34) (v := (-1)) h dX1_mayLieBeneath_34 (by decide) ?_
          refine r_ixor (pc := 35) h dX1_mayLieBeneath_35 ?_
          refine r_iand (pc := 36) h dX1_mayLieBeneath_36 ?_
          refine p_ite hf (fun hc7 hf => ?_) (fun hc7 hf => ?_)
          · refine r_if_ne (pc := 37) (tgt := 50) h dX1_mayLieBeneath_37 (by decide) (fun q => absurd hc7 q) (fun _ => ?_)
            refine r_aload_n (pc := 40) h dX1_mayLieBeneath_40 rfl ?_
            refine gf_X1_24 (pc := 41) h dX1_mayLieBeneath_41 ?_
            refine r_iload_n (pc := 44) h dX1_mayLieBeneath_44 rfl ?_
            refine r_iald (pc := 45) (k := 12) (v := (u 12 l3.toNatClampNeg)) h hshX_12 hi5 rfl dX1_mayLieBeneath_45 ?_
            refine r_iload_n (pc := 46) h dX1_mayLieBeneath_46 rfl ?_
            refine p_ite hf (fun hc8 hf => ?_) (fun hc8 hf => ?_)
            · refine r_icmp_le (pc := 47) (tgt := 52) h dX1_mayLieBeneath_47 (by decide) (fun _ => ?_) (fun q => absurd hc8 q)
              refine r_iinc (pc := 52) (v := (l3 + 1)) (L' := [some (.inr 7), some (.inl l1), some (.inl l2), some (.inl (l3 + 1))]) h dX1_mayLieBeneath_52 rfl rfl (by decide) rfl ?_
              refine r_goto (pc := 55) (tgt := 2) h dX1_mayLieBeneath_55 (by decide) ?_
              exact ih _ _ _ hf
            · refine r_icmp_le (pc := 47) (tgt := 52) h dX1_mayLieBeneath_47 (by decide) (fun q => absurd q hc8) (fun _ => ?_)
              refine r_iconst (pc := 50) (v := 0) h dX1_mayLieBeneath_50 (by decide) ?_
              have hf := Option.some.inj hf
              subst hf
              exact hr 51 _ dX1_mayLieBeneath_51 z_0
          · refine r_if_ne (pc := 37) (tgt := 50) h dX1_mayLieBeneath_37 (by decide) (fun _ => ?_) (fun q => absurd q hc7)
            refine r_iconst (pc := 50) (v := 0) h dX1_mayLieBeneath_50 (by decide) ?_
            have hf := Option.some.inj hf
            subst hf
            exact hr 51 _ dX1_mayLieBeneath_51 z_0
set_option maxRecDepth 100000 in
set_option maxHeartbeats 4000000 in
theorem w_X1_mayLieBeneath_0 {K : Kx} {E : Ex} (h : Ok shX K E RX1 cX1_mayLieBeneath 4 rm_X1_mayLieBeneath) {r : Int32} {u : St} (hr : RetZ shX K E cX1_mayLieBeneath 4 r u) (l1 l2 : Int32) (hf : f_X1_mayLieBeneath u l1 l2 = some r) : Vd shX K E 4 0 [some (.inr 7), some (.inl l1), some (.inl l2), none] [] u := by
  refine r_iconst (pc := 0) (v := 0) h dX1_mayLieBeneath_0 (by decide) ?_
  refine r_istore_n (pc := 1) (L' := [some (.inr 7), some (.inl l1), some (.inl l2), some (.inl 0)]) h dX1_mayLieBeneath_1 (by decide) rfl ?_
  exact w_X1_mayLieBeneath_2 h hr FU _ _ _ hf
theorem c_X1_mayLieBeneath {u : St} {l1 l2 : Int32} {r : Int32} (hf : f_X1_mayLieBeneath u l1 l2 = some r) : CtI shX yX1_mayLieBeneath cX1_mayLieBeneath 4 (some .boolean) rm_X1_mayLieBeneath [.inr 7, .inl l1, .inl l2] u r u := ct_Z (by decide +kernel) (Nat.le_of_ble_eq_true rfl) (fun K E h hr => w_X1_mayLieBeneath_0 h hr _ _ hf)
set_option maxRecDepth 100000 in
set_option maxHeartbeats 4000000 in
theorem w_X6_isAllowed_0 {K : Kx} {E : Ex} (h : Ok shX K E RX6 cX6_isAllowed 4 rm_X6_isAllowed) {r : Int32 × St} (hr : RetZ shX K E cX6_isAllowed 4 r.1 r.2) (u : St) (l1 l2 l3 : Int32) (hf : f_X6_isAllowed u l1 l2 l3 = some r) : Vd shX K E 4 0 [some (.inr 0), some (.inl l1), some (.inl l2), some (.inl l3)] [] u := by
  refine r_aload_n (pc := 0) h dX6_isAllowed_0 rfl ?_
  refine gf_X6_28 (pc := 1) h dX6_isAllowed_1 ?_
  refine r_iload_n (pc := 4) h dX6_isAllowed_4 rfl ?_
  refine r_iload_n (pc := 5) h dX6_isAllowed_5 rfl ?_
  refine p_b hf (fun q1 e2 hf => ?_)
  refine r_cVv (pc := 6) (k := 7) (st := []) h [.inl l1, .inl l2] cv_X1_prepare wm_X6_249 (c_X1_prepare e2) ⟨rfl, rfl, Nat.le_of_ble_eq_true rfl, Nat.le_of_ble_eq_true rfl⟩ hshX_7 rfl rfl (Nat.le_of_ble_eq_true rfl) dX6_isAllowed_6 ?_
  refine r_aload_n (pc := 9) h dX6_isAllowed_9 rfl ?_
  refine gf_X6_28 (pc := 10) h dX6_isAllowed_10 ?_
  refine r_iload_n (pc := 13) h dX6_isAllowed_13 rfl ?_
  refine r_aload_n (pc := 14) h dX6_isAllowed_14 rfl ?_
  refine gf_X6_64 (pc := 15) (v := (q1 0 9)) h rfl dX6_isAllowed_15 ?_
  refine p_b hf (fun q3 e4 hf => ?_)
  refine r_cVi (pc := 18) (k := 7) (st := []) h [.inl l3, .inl (q1 0 9)] cv_X1_mayLieBeneath wm_X6_253 (c_X1_mayLieBeneath e4) ⟨rfl, rfl, Nat.le_of_ble_eq_true rfl, Nat.le_of_ble_eq_true rfl⟩ hshX_7 rfl rfl (Nat.le_of_ble_eq_true rfl) dX6_isAllowed_18 ?_
  refine p_gp hf (fun hc5 hf => ?_)
  have hf := Option.some.inj hf
  subst hf
  exact hr 21 _ dX6_isAllowed_21 (z01 hc5)
theorem c_X6_isAllowed {u : St} {l1 l2 l3 : Int32} {r : Int32 × St} (hf : f_X6_isAllowed u l1 l2 l3 = some r) : CtI shX yX6_isAllowed cX6_isAllowed 4 (some .boolean) rm_X6_isAllowed [.inr 0, .inl l1, .inl l2, .inl l3] u r.1 r.2 := ct_Z (by decide +kernel) (Nat.le_of_ble_eq_true rfl) (fun K E h hr => w_X6_isAllowed_0 h hr _ _ _ _ hf)
set_option maxRecDepth 100000 in
set_option maxHeartbeats 4000000 in
theorem w_X6_allowed_0 {K : Kx} {E : Ex} (h : Ok shX K E RX6 cX6_allowed 4 rm_X6_allowed) {r : Int32 × St} (hr : RetI shX K E cX6_allowed 4 r.1 r.2) (u : St) (l1 l2 l3 : Int32) (hf : f_X6_allowed u l1 l2 l3 = some r) : Vd shX K E 4 0 [some (.inr 0), some (.inl l1), some (.inl l2), some (.inl l3)] [] u := by
  refine r_aload_n (pc := 0) h dX6_allowed_0 rfl ?_
  refine r_iload_n (pc := 1) h dX6_allowed_1 rfl ?_
  refine r_iload_n (pc := 2) h dX6_allowed_2 rfl ?_
  refine r_iload_n (pc := 3) h dX6_allowed_3 rfl ?_
  refine p_b hf (fun q1 e2 hf => ?_)
  refine r_cVi (pc := 4) (k := 0) (st := []) h [.inl l1, .inl l2, .inl l3] cv_X6_isChange wm_X6_111 (c_X6_isChange e2) ⟨rfl, rfl, Nat.le_of_ble_eq_true rfl, Nat.le_of_ble_eq_true rfl⟩ hshX_0 rfl rfl (Nat.le_of_ble_eq_true rfl) dX6_allowed_4 ?_
  refine p_ite hf (fun hc3 hf => ?_) (fun hc3 hf => ?_)
  · refine r_if_ne (pc := 7) (tgt := 16) h dX6_allowed_7 (by decide) (fun q => absurd hc3 q) (fun _ => ?_)
    refine r_aload_n (pc := 10) h dX6_allowed_10 rfl ?_
    refine r_iconst (pc := 11) (v := 1) h dX6_allowed_11 (by decide) ?_
    refine p_b hf (fun q7 e8 hf => ?_)
    refine r_cVi (pc := 12) (k := 0) (st := []) h [.inl 1] cv_X6_finding wm_X6_72 (c_X6_finding e8) ⟨rfl, rfl, Nat.le_of_ble_eq_true rfl, Nat.le_of_ble_eq_true rfl⟩ hshX_0 rfl rfl (Nat.le_of_ble_eq_true rfl) dX6_allowed_12 ?_
    have hf := Option.some.inj hf
    subst hf
    exact hr 15 _ dX6_allowed_15
  · refine r_if_ne (pc := 7) (tgt := 16) h dX6_allowed_7 (by decide) (fun _ => ?_) (fun q => absurd q hc3)
    refine r_aload_n (pc := 16) h dX6_allowed_16 rfl ?_
    refine r_iload_n (pc := 17) h dX6_allowed_17 rfl ?_
    refine r_iload_n (pc := 18) h dX6_allowed_18 rfl ?_
    refine r_iload_n (pc := 19) h dX6_allowed_19 rfl ?_
    refine p_b hf (fun q4 e5 hf => ?_)
    refine r_cVi (pc := 20) (k := 0) (st := []) h [.inl l1, .inl l2, .inl l3] cv_X6_isAllowed wm_X6_114 (c_X6_isAllowed e5) ⟨rfl, rfl, Nat.le_of_ble_eq_true rfl, Nat.le_of_ble_eq_true rfl⟩ hshX_0 rfl rfl (Nat.le_of_ble_eq_true rfl) dX6_allowed_20 ?_
    refine p_ite hf (fun hc6 hf => ?_) (fun hc6 hf => ?_)
    · refine r_if_eq (pc := 23) (tgt := 30) h dX6_allowed_23 (by decide) (fun _ => ?_) (fun q => absurd hc6 q)
      refine r_iconst (pc := 30) (v := 0) h dX6_allowed_30 (by decide) ?_
      have hf := Option.some.inj hf
      subst hf
      exact hr 31 _ dX6_allowed_31
    · refine r_if_eq (pc := 23) (tgt := 30) h dX6_allowed_23 (by decide) (fun q => absurd q hc6) (fun _ => ?_)
      refine r_iconst (pc := 26) (v := 1) h dX6_allowed_26 (by decide) ?_
      refine r_goto (pc := 27) (tgt := 31) h dX6_allowed_27 (by decide) ?_
      have hf := Option.some.inj hf
      subst hf
      exact hr 31 _ dX6_allowed_31
theorem c_X6_allowed {u : St} {l1 l2 l3 : Int32} {r : Int32 × St} (hf : f_X6_allowed u l1 l2 l3 = some r) : CtI shX yX6_allowed cX6_allowed 4 (some .int) rm_X6_allowed [.inr 0, .inl l1, .inl l2, .inl l3] u r.1 r.2 := ct_I (by decide +kernel) (Nat.le_of_ble_eq_true rfl) (fun K E h hr => w_X6_allowed_0 h hr _ _ _ _ hf)
set_option maxRecDepth 100000 in
set_option maxHeartbeats 4000000 in
theorem w_X1_missing_45 {K : Kx} {E : Ex} (h : Ok shX K E RX1 cX1_missing 4 rm_X1_missing) {r : Int32} {u : St} (hr : RetI shX K E cX1_missing 4 r u) {k4 : Int32 → Int32 → Int32 → Option (Int32)} (hk4 : ∀ (l1 l2 l3 : Int32), k4 l1 l2 l3 = some r → Vd shX K E 4 4 [some (.inr 7), some (.inl l1), some (.inl l2), some (.inl l3)] [] u) (l1 l2 l3 : Int32) (hf : f_X1_missing_45 k4 u l1 l2 l3 = some r) : Vd shX K E 4 45 [some (.inr 7), some (.inl l1), some (.inl l2), some (.inl l3)] [] u := by
  refine r_iload_n (pc := 45) h dX1_missing_45 rfl ?_
  refine r_iconst (pc := 46) (v := 1) h dX1_missing_46 (by decide) ?_
  refine r_iload_n (pc := 47) h dX1_missing_47 rfl ?_
  refine r_ishl (pc := 48) h dX1_missing_48 ?_
  refine r_ior (pc := 49) h dX1_missing_49 ?_
  refine r_istore_n (pc := 50) (L' := [some (.inr 7), some (.inl l1), some (.inl (l2 ||| (1 <<< (l3 &&& 31)))), some (.inl l3)]) h dX1_missing_50 (by decide) rfl ?_
  refine r_iinc (pc := 51) (v := (l3 + 1)) (L' := [some (.inr 7), some (.inl l1), some (.inl (l2 ||| (1 <<< (l3 &&& 31)))), some (.inl (l3 + 1))]) h dX1_missing_51 rfl rfl (by decide) rfl ?_
  refine r_goto (pc := 54) (tgt := 4) h dX1_missing_54 (by decide) ?_
  exact hk4 _ _ _ hf
set_option maxRecDepth 100000 in
set_option maxHeartbeats 4000000 in
theorem w_X1_missing_4 {K : Kx} {E : Ex} (h : Ok shX K E RX1 cX1_missing 4 rm_X1_missing) {r : Int32} {u : St} (hr : RetI shX K E cX1_missing 4 r u) : ∀ (n : Nat) (l1 l2 l3 : Int32), f_X1_missing_4 u n l1 l2 l3 = some r → Vd shX K E 4 4 [some (.inr 7), some (.inl l1), some (.inl l2), some (.inl l3)] [] u := by
  intro n
  induction n with
  | zero => intro l1 l2 l3 hf; cases hf
  | succ n ih =>
    intro l1 l2 l3 hf
    refine r_iload_n (pc := 4) h dX1_missing_4 rfl ?_
    refine r_aload_n (pc := 5) h dX1_missing_5 rfl ?_
    refine gf_X1_57 (pc := 6) (v := (u 7 3)) h rfl dX1_missing_6 ?_
    refine p_ite hf (fun hc1 hf => ?_) (fun hc1 hf => ?_)
    · refine r_icmp_ge (pc := 9) (tgt := 57) h dX1_missing_9 (by decide) (fun _ => ?_) (fun q => absurd hc1 q)
      refine r_iload_n (pc := 57) h dX1_missing_57 rfl ?_
      have hf := Option.some.inj hf
      subst hf
      exact hr 58 _ dX1_missing_58
    · refine r_icmp_ge (pc := 9) (tgt := 57) h dX1_missing_9 (by decide) (fun q => absurd q hc1) (fun _ => ?_)
      refine r_iload_n (pc := 12) h dX1_missing_12 rfl ?_
      refine r_iload_n (pc := 13) h dX1_missing_13 rfl ?_
      refine p_b hf (fun q2 e3 hf => ?_)
      refine r_cNi (pc := 14) (st := []) h [.inl l1, .inl l3] cs_X6_hasBit nm_X1_97 (c_X6_hasBit e3) ⟨rfl, rfl, Nat.le_of_ble_eq_true rfl, Nat.le_of_ble_eq_true rfl⟩ (Nat.le_of_ble_eq_true rfl) dX1_missing_14 ?_
      refine p_ite hf (fun hc4 hf => ?_) (fun hc4 hf => ?_)
      · refine r_if_ne (pc := 17) (tgt := 51) h dX1_missing_17 (by decide) (fun q => absurd hc4 q) (fun _ => ?_)
        refine r_aload_n (pc := 20) h dX1_missing_20 rfl ?_
        refine gf_X1_15 (pc := 21) h dX1_missing_21 ?_
        refine r_iload_n (pc := 24) h dX1_missing_24 rfl ?_
        refine p_g hf (fun hi5 hf => ?_)
        refine r_iald (pc := 25) (k := 9) (v := (u 9 l3.toNatClampNeg)) h hshX_9 hi5 rfl dX1_missing_25 ?_
        refine p_ite hf (fun hc6 hf => ?_) (fun hc6 hf => ?_)
        · refine r_if_lt (pc := 26) (tgt := 45) h dX1_missing_26 (by decide) (fun _ => ?_) (fun q => absurd hc6 q)
          exact w_X1_missing_45 h hr (fun x0 x1 x2 e9 => ih x0 x1 x2 e9) _ _ _ hf
        · refine r_if_lt (pc := 26) (tgt := 45) h dX1_missing_26 (by decide) (fun q => absurd q hc6) (fun _ => ?_)
          refine r_aload_n (pc := 29) h dX1_missing_29 rfl ?_
          refine gf_X1_108 (pc := 30) (v := (u 7 14)) h rfl dX1_missing_30 ?_
          refine r_aload_n (pc := 33) h dX1_missing_33 rfl ?_
          refine gf_X1_15 (pc := 34) h dX1_missing_34 ?_
          refine r_iload_n (pc := 37) h dX1_missing_37 rfl ?_
          refine r_iald (pc := 38) (k := 9) (v := (u 9 l3.toNatClampNeg)) h hshX_9 hi5 rfl dX1_missing_38 ?_
          refine p_b hf (fun q7 e8 hf => ?_)
          refine r_cNi (pc := 39) (st := []) h [.inl (u 7 14), .inl (u 9 l3.toNatClampNeg)] cs_X6_hasBit nm_X1_97 (c_X6_hasBit e8) ⟨rfl, rfl, Nat.le_of_ble_eq_true rfl, Nat.le_of_ble_eq_true rfl⟩ (Nat.le_of_ble_eq_true rfl) dX1_missing_39 ?_
          refine p_ite hf (fun hc9 hf => ?_) (fun hc9 hf => ?_)
          · refine r_if_eq (pc := 42) (tgt := 51) h dX1_missing_42 (by decide) (fun _ => ?_) (fun q => absurd hc9 q)
            refine r_iinc (pc := 51) (v := (l3 + 1)) (L' := [some (.inr 7), some (.inl l1), some (.inl l2), some (.inl (l3 + 1))]) h dX1_missing_51 rfl rfl (by decide) rfl ?_
            refine r_goto (pc := 54) (tgt := 4) h dX1_missing_54 (by decide) ?_
            exact ih _ _ _ hf
          · refine r_if_eq (pc := 42) (tgt := 51) h dX1_missing_42 (by decide) (fun q => absurd q hc9) (fun _ => ?_)
            exact w_X1_missing_45 h hr (fun x0 x1 x2 e9 => ih x0 x1 x2 e9) _ _ _ hf
      · refine r_if_ne (pc := 17) (tgt := 51) h dX1_missing_17 (by decide) (fun _ => ?_) (fun q => absurd q hc4)
        refine r_iinc (pc := 51) (v := (l3 + 1)) (L' := [some (.inr 7), some (.inl l1), some (.inl l2), some (.inl (l3 + 1))]) h dX1_missing_51 rfl rfl (by decide) rfl ?_
        refine r_goto (pc := 54) (tgt := 4) h dX1_missing_54 (by decide) ?_
        exact ih _ _ _ hf
set_option maxRecDepth 100000 in
set_option maxHeartbeats 4000000 in
theorem w_X1_missing_0 {K : Kx} {E : Ex} (h : Ok shX K E RX1 cX1_missing 4 rm_X1_missing) {r : Int32} {u : St} (hr : RetI shX K E cX1_missing 4 r u) (l1 : Int32) (hf : f_X1_missing u l1 = some r) : Vd shX K E 4 0 [some (.inr 7), some (.inl l1), none, none] [] u := by
  refine r_iconst (pc := 0) (v := 0) h dX1_missing_0 (by decide) ?_
  refine r_istore_n (pc := 1) (L' := [some (.inr 7), some (.inl l1), some (.inl 0), none]) h dX1_missing_1 (by decide) rfl ?_
  refine r_iconst (pc := 2) (v := 0) h dX1_missing_2 (by decide) ?_
  refine r_istore_n (pc := 3) (L' := [some (.inr 7), some (.inl l1), some (.inl 0), some (.inl 0)]) h dX1_missing_3 (by decide) rfl ?_
  exact w_X1_missing_4 h hr FU _ _ _ hf
theorem c_X1_missing {u : St} {l1 : Int32} {r : Int32} (hf : f_X1_missing u l1 = some r) : CtI shX yX1_missing cX1_missing 4 (some .int) rm_X1_missing [.inr 7, .inl l1] u r u := ct_I (by decide +kernel) (Nat.le_of_ble_eq_true rfl) (fun K E h hr => w_X1_missing_0 h hr _ hf)
set_option maxRecDepth 100000 in
set_option maxHeartbeats 4000000 in
theorem w_X1_mustComeOff_0 {K : Kx} {E : Ex} (h : Ok shX K E RX1 cX1_mustComeOff 3 rm_X1_mustComeOff) {r : Int32} {u : St} (hr : RetZ shX K E cX1_mustComeOff 3 r u) (l1 : Int32) (hf : f_X1_mustComeOff u l1 = some r) : Vd shX K E 3 0 [some (.inr 7), some (.inl l1), none] [] u := by
  refine r_aload_n (pc := 0) h dX1_mustComeOff_0 rfl ?_
  refine gf_X1_9 (pc := 1) h dX1_mustComeOff_1 ?_
  refine r_iload_n (pc := 4) h dX1_mustComeOff_4 rfl ?_
  refine p_g hf (fun hi1 hf => ?_)
  refine r_iald (pc := 5) (k := 8) (v := (u 8 l1.toNatClampNeg)) h hshX_8 hi1 rfl dX1_mustComeOff_5 ?_
  refine r_istore_n (pc := 6) (L' := [some (.inr 7), some (.inl l1), some (.inl (u 8 l1.toNatClampNeg))]) h dX1_mustComeOff_6 (by decide) rfl ?_
  refine r_aload_n (pc := 7) h dX1_mustComeOff_7 rfl ?_
  refine gf_X1_18 (pc := 8) h dX1_mustComeOff_8 ?_
  refine r_iload_n (pc := 11) h dX1_mustComeOff_11 rfl ?_
  refine r_iald (pc := 12) (k := 10) (v := (u 10 l1.toNatClampNeg)) h hshX_10 hi1 rfl dX1_mustComeOff_12 ?_
  refine r_aload_n (pc := 13) h dX1_mustComeOff_13 rfl ?_
  refine gf_X1_108 (pc := 14) (v := (u 7 14)) h rfl dX1_mustComeOff_14 ?_
  refine r_iand (pc := 17) h dX1_mustComeOff_17 ?_
  refine p_ite hf (fun hc2 hf => ?_) (fun hc2 hf => ?_)
  · refine r_if_ne (pc := 18) (tgt := 39) h dX1_mustComeOff_18 (by decide) (fun q => absurd hc2 q) (fun _ => ?_)
    refine r_iload_n (pc := 21) h dX1_mustComeOff_21 rfl ?_
    refine p_ite hf (fun hc3 hf => ?_) (fun hc3 hf => ?_)
    · refine r_if_lt (pc := 22) (tgt := 43) h dX1_mustComeOff_22 (by decide) (fun _ => ?_) (fun q => absurd hc3 q)
      refine r_iconst (pc := 43) (v := 0) h dX1_mustComeOff_43 (by decide) ?_
      have hf := Option.some.inj hf
      subst hf
      exact hr 44 _ dX1_mustComeOff_44 z_0
    · refine r_if_lt (pc := 22) (tgt := 43) h dX1_mustComeOff_22 (by decide) (fun q => absurd q hc3) (fun _ => ?_)
      refine r_aload_n (pc := 25) h dX1_mustComeOff_25 rfl ?_
      refine gf_X1_21 (pc := 26) h dX1_mustComeOff_26 ?_
      refine r_iload_n (pc := 29) h dX1_mustComeOff_29 rfl ?_
      refine p_g hf (fun hi4 hf => ?_)
      refine r_iald (pc := 30) (k := 11) (v := (u 11 (u 8 l1.toNatClampNeg).toNatClampNeg)) h hshX_11 hi4 rfl dX1_mustComeOff_30 ?_
      refine r_aload_n (pc := 31) h dX1_mustComeOff_31 rfl ?_
      refine gf_X1_114 (pc := 32) (v := (u 7 15)) h rfl dX1_mustComeOff_32 ?_
      refine r_iand (pc := 35) h dX1_mustComeOff_35 ?_
      refine p_ite hf (fun hc5 hf => ?_) (fun hc5 hf => ?_)
      · refine r_if_eq (pc := 36) (tgt := 43) h dX1_mustComeOff_36 (by decide) (fun _ => ?_) (fun q => absurd hc5 q)
        refine r_iconst (pc := 43) (v := 0) h dX1_mustComeOff_43 (by decide) ?_
        have hf := Option.some.inj hf
        subst hf
        exact hr 44 _ dX1_mustComeOff_44 z_0
      · refine r_if_eq (pc := 36) (tgt := 43) h dX1_mustComeOff_36 (by decide) (fun q => absurd q hc5) (fun _ => ?_)
        refine r_iconst (pc := 39) (v := 1) h dX1_mustComeOff_39 (by decide) ?_
        refine r_goto (pc := 40) (tgt := 44) h dX1_mustComeOff_40 (by decide) ?_
        have hf := Option.some.inj hf
        subst hf
        exact hr 44 _ dX1_mustComeOff_44 z_1
  · refine r_if_ne (pc := 18) (tgt := 39) h dX1_mustComeOff_18 (by decide) (fun _ => ?_) (fun q => absurd q hc2)
    refine r_iconst (pc := 39) (v := 1) h dX1_mustComeOff_39 (by decide) ?_
    refine r_goto (pc := 40) (tgt := 44) h dX1_mustComeOff_40 (by decide) ?_
    have hf := Option.some.inj hf
    subst hf
    exact hr 44 _ dX1_mustComeOff_44 z_1
theorem c_X1_mustComeOff {u : St} {l1 : Int32} {r : Int32} (hf : f_X1_mustComeOff u l1 = some r) : CtI shX yX1_mustComeOff cX1_mustComeOff 3 (some .boolean) rm_X1_mustComeOff [.inr 7, .inl l1] u r u := ct_Z (by decide +kernel) (Nat.le_of_ble_eq_true rfl) (fun K E h hr => w_X1_mustComeOff_0 h hr _ hf)
