set_option maxRecDepth 100000 in
set_option maxHeartbeats 4000000 in
theorem w_X3_noteGoing_0 {K : Kx} {E : Ex} (h : Ok shX K E RX3 cX3_noteGoing 4 rm_X3_noteGoing) {r : St} (hr : RetV shX K E cX3_noteGoing 4 r) (u : St) (l1 l2 l3 : Int32) (hf : f_X3_noteGoing u l1 l2 l3 = some r) : Vd shX K E 4 0 [some (.inr 21), some (.inl l1), some (.inl l2), some (.inl l3)] [] u := by
  refine r_iload_n (pc := 0) h dX3_noteGoing_0 rfl ?_
  refine r_iconst (pc := 1) (v := 0) h dX3_noteGoing_1 (by decide) ?_
  refine r_bipush (pc := 2) (v := 11) h dX3_noteGoing_2 (by decide) ?_
  refine p_b hf (fun q1 e2 hf => ?_)
  refine r_cNi (pc := 4) (st := []) h [.inl l1, .inl 0, .inl 11] cs_X6_isWithin nm_X3_72 (c_X6_isWithin e2) ⟨rfl, rfl, Nat.le_of_ble_eq_true rfl, Nat.le_of_ble_eq_true rfl⟩ (Nat.le_of_ble_eq_true rfl) dX3_noteGoing_4 ?_
  refine p_ite hf (fun hc3 hf => ?_) (fun hc3 hf => ?_)
  · refine r_if_eq (pc := 7) (tgt := 35) h dX3_noteGoing_7 (by decide) (fun _ => ?_) (fun q => absurd hc3 q)
    have hf := Option.some.inj hf
    subst hf
    exact hr 35 _ dX3_noteGoing_35
  · refine r_if_eq (pc := 7) (tgt := 35) h dX3_noteGoing_7 (by decide) (fun q => absurd q hc3) (fun _ => ?_)
    refine r_iload_n (pc := 10) h dX3_noteGoing_10 rfl ?_
    refine r_iconst (pc := 11) (v := 0) h dX3_noteGoing_11 (by decide) ?_
    refine r_bipush (pc := 12) (v := 11) h dX3_noteGoing_12 (by decide) ?_
    refine p_b hf (fun q4 e5 hf => ?_)
    refine r_cNi (pc := 14) (st := []) h [.inl l2, .inl 0, .inl 11] cs_X6_isWithin nm_X3_72 (c_X6_isWithin e5) ⟨rfl, rfl, Nat.le_of_ble_eq_true rfl, Nat.le_of_ble_eq_true rfl⟩ (Nat.le_of_ble_eq_true rfl) dX3_noteGoing_14 ?_
    refine p_ite hf (fun hc6 hf => ?_) (fun hc6 hf => ?_)
    · refine r_if_eq (pc := 17) (tgt := 35) h dX3_noteGoing_17 (by decide) (fun _ => ?_) (fun q => absurd hc6 q)
      have hf := Option.some.inj hf
      subst hf
      exact hr 35 _ dX3_noteGoing_35
    · refine r_if_eq (pc := 17) (tgt := 35) h dX3_noteGoing_17 (by decide) (fun q => absurd q hc6) (fun _ => ?_)
      refine r_aload_n (pc := 20) h dX3_noteGoing_20 rfl ?_
      refine gf_X3_15 (pc := 21) h dX3_noteGoing_21 ?_
      refine r_iload_n (pc := 24) h dX3_noteGoing_24 rfl ?_
      refine r_bipush (pc := 25) (v := 12) h dX3_noteGoing_25 (by decide) ?_
      refine r_imul (pc := 27) h dX3_noteGoing_27 ?_
      refine r_iload_n (pc := 28) h dX3_noteGoing_28 rfl ?_
      refine r_iadd (pc := 29) h dX3_noteGoing_29 ?_
      refine r_dup2 (pc := 30) h dX3_noteGoing_30 ?_
      refine p_g hf (fun hi7 hf => ?_)
      refine r_iald (pc := 31) (k := 23) (v := (u 23 ((l1 * 12) + l2).toNatClampNeg)) h hshX_23 hi7 rfl dX3_noteGoing_31 ?_
      refine r_iload_n (pc := 32) h dX3_noteGoing_32 rfl ?_
      refine r_iadd (pc := 33) h dX3_noteGoing_33 ?_
      refine r_iast (pc := 34) (k := 23) h hshX_23 hi7 dX3_noteGoing_34 ?_
      have hf := Option.some.inj hf
      subst hf
      exact hr 35 _ dX3_noteGoing_35
theorem c_X3_noteGoing {u : St} {l1 l2 l3 : Int32} {r : St} (hf : f_X3_noteGoing u l1 l2 l3 = some r) : CtV shX yX3_noteGoing cX3_noteGoing 4 none rm_X3_noteGoing [.inr 21, .inl l1, .inl l2, .inl l3] u r := ct_V (by decide +kernel) (Nat.le_of_ble_eq_true rfl) (fun K E h hr => w_X3_noteGoing_0 h hr _ _ _ _ hf)
set_option maxRecDepth 100000 in
set_option maxHeartbeats 4000000 in
theorem w_X3_settle_26 {K : Kx} {E : Ex} (h : Ok shX K E RX3 cX3_settle 6 rm_X3_settle) {r : St} (hr : RetV shX K E cX3_settle 6 r) : ∀ (n : Nat) (u : St) (l1 l3 l4 : Int32), f_X3_settle_26 n u l1 l3 l4 = some r → Vd shX K E 6 26 [some (.inr 21), some (.inl l1), none, some (.inl l3), some (.inl l4), none] [] u := by
  intro n
  induction n with
  | zero => intro u l1 l3 l4 hf; cases hf
  | succ n ih =>
    intro u l1 l3 l4 hf
    refine r_iload (pc := 26) h dX3_settle_26 rfl ?_
    refine r_bipush (pc := 28) (v := 12) h dX3_settle_28 (by decide) ?_
    refine p_ite hf (fun hc1 hf => ?_) (fun hc1 hf => ?_)
    · refine r_icmp_ge (pc := 30) (tgt := 99) h dX3_settle_30 (by decide) (fun _ => ?_) (fun q => absurd hc1 q)
      have hf := Option.some.inj hf
      subst hf
      exact hr 99 _ dX3_settle_99
    · refine r_icmp_ge (pc := 30) (tgt := 99) h dX3_settle_30 (by decide) (fun q => absurd q hc1) (fun _ => ?_)
      refine r_iload_n (pc := 33) h dX3_settle_33 rfl ?_
      refine r_iconst (pc := 34) (v := 0) h dX3_settle_34 (by decide) ?_
      refine r_bipush (pc := 35) (v := 11) h dX3_settle_35 (by decide) ?_
      refine p_b hf (fun q2 e3 hf => ?_)
      refine r_cNi (pc := 37) (st := []) h [.inl l3, .inl 0, .inl 11] cs_X6_isWithin nm_X3_72 (c_X6_isWithin e3) ⟨rfl, rfl, Nat.le_of_ble_eq_true rfl, Nat.le_of_ble_eq_true rfl⟩ (Nat.le_of_ble_eq_true rfl) dX3_settle_37 ?_
      refine p_ite hf (fun hc4 hf => ?_) (fun hc4 hf => ?_)
      · refine r_if_eq (pc := 40) (tgt := 99) h dX3_settle_40 (by decide) (fun _ => ?_) (fun q => absurd hc4 q)
        have hf := Option.some.inj hf
        subst hf
        exact hr 99 _ dX3_settle_99
      · refine r_if_eq (pc := 40) (tgt := 99) h dX3_settle_40 (by decide) (fun q => absurd q hc4) (fun _ => ?_)
        refine r_aload_n (pc := 43) h dX3_settle_43 rfl ?_
        refine gf_X3_18 (pc := 44) h dX3_settle_44 ?_
        refine r_iload_n (pc := 47) h dX3_settle_47 rfl ?_
        refine p_g hf (fun hi5 hf => ?_)
        refine r_iald (pc := 48) (k := 24) (v := (u 24 l3.toNatClampNeg)) h hshX_24 hi5 rfl dX3_settle_48 ?_
        refine r_istore (pc := 49) (L' := [some (.inr 21), some (.inl l1), none, some (.inl l3), some (.inl l4), some (.inl (u 24 l3.toNatClampNeg))]) h dX3_settle_49 (by decide) rfl ?_
        refine r_aload_n (pc := 51) h dX3_settle_51 rfl ?_
        refine r_iload (pc := 52) h dX3_settle_52 rfl ?_
        refine r_iload_n (pc := 54) h dX3_settle_54 rfl ?_
        refine r_iconst (pc := 55) (v := 1) h dX3_settle_55 (by decide) ?_
        refine p_b hf (fun q6 e7 hf => ?_)
        refine r_cVv (pc := 56) (k := 21) (st := []) h [.inl (u 24 l3.toNatClampNeg), .inl l3, .inl 1] cv_X3_noteGoing wm_X3_76 (c_X3_noteGoing e7) ⟨rfl, rfl, Nat.le_of_ble_eq_true rfl, Nat.le_of_ble_eq_true rfl⟩ hshX_21 rfl rfl (Nat.le_of_ble_eq_true rfl) dX3_settle_56 ?_
        refine r_iload (pc := 59) h dX3_settle_59 rfl ?_
        refine r_iload_n (pc := 61) h dX3_settle_61 rfl ?_
        refine p_ite hf (fun hc8 hf => ?_) (fun hc8 hf => ?_)
        · refine r_icmp_eq (pc := 62) (tgt := 76) h dX3_settle_62 (by decide) (fun _ => ?_) (fun q => absurd hc8 q)
          have hf := Option.some.inj hf
          subst hf
          exact hr 76 _ dX3_settle_76
        · refine r_icmp_eq (pc := 62) (tgt := 76) h dX3_settle_62 (by decide) (fun q => absurd q hc8) (fun _ => ?_)
          refine r_iload (pc := 65) h dX3_settle_65 rfl ?_
          refine r_iconst (pc := 67) (v := 0) h dX3_settle_67 (by decide) ?_
          refine r_bipush (pc := 68) (v := 11) h dX3_settle_68 (by decide) ?_
          refine p_b hf (fun q9 e10 hf => ?_)
          refine r_cNi (pc := 70) (st := []) h [.inl (u 24 l3.toNatClampNeg), .inl 0, .inl 11] cs_X6_isWithin nm_X3_72 (c_X6_isWithin e10) ⟨rfl, rfl, Nat.le_of_ble_eq_true rfl, Nat.le_of_ble_eq_true rfl⟩ (Nat.le_of_ble_eq_true rfl) dX3_settle_70 ?_
          refine p_ite hf (fun hc11 hf => ?_) (fun hc11 hf => ?_)
          · refine r_if_ne (pc := 73) (tgt := 77) h dX3_settle_73 (by decide) (fun q => absurd hc11 q) (fun _ => ?_)
            have hf := Option.some.inj hf
            subst hf
            exact hr 76 _ dX3_settle_76
          · refine r_if_ne (pc := 73) (tgt := 77) h dX3_settle_73 (by decide) (fun _ => ?_) (fun q => absurd q hc11)
            refine r_aload_n (pc := 77) h dX3_settle_77 rfl ?_
            refine gf_X3_21 (pc := 78) h dX3_settle_78 ?_
            refine r_iload (pc := 81) h dX3_settle_81 rfl ?_
            refine p_g hf (fun hi12 hf => ?_)
            refine r_iald (pc := 83) (k := 25) (v := (q6 25 (u 24 l3.toNatClampNeg).toNatClampNeg)) h hshX_25 hi12 rfl dX3_settle_83 ?_
            refine r_istore_n (pc := 84) (L' := [some (.inr 21), some (.inl l1), none, some (.inl (q6 25 (u 24 l3.toNatClampNeg).toNatClampNeg)), some (.inl l4), some (.inl (u 24 l3.toNatClampNeg))]) h dX3_settle_84 (by decide) rfl ?_
            refine r_aload_n (pc := 85) h dX3_settle_85 rfl ?_
            refine r_iload (pc := 86) h dX3_settle_86 rfl ?_
            refine r_iload_n (pc := 88) h dX3_settle_88 rfl ?_
            refine r_iconst (pc := 89) (v := (-1)) h dX3_settle_89 (by decide) ?_
            refine p_b hf (fun q13 e14 hf => ?_)
            refine r_cVv (pc := 90) (k := 21) (st := []) h [.inl (u 24 l3.toNatClampNeg), .inl (q6 25 (u 24 l3.toNatClampNeg).toNatClampNeg), .inl (-1)] cv_X3_noteGoing wm_X3_76 (c_X3_noteGoing e14) ⟨rfl, rfl, Nat.le_of_ble_eq_true rfl, Nat.le_of_ble_eq_true rfl⟩ hshX_21 rfl rfl (Nat.le_of_ble_eq_true rfl) dX3_settle_90 ?_
            refine r_iinc (pc := 93) (v := (l4 + 1)) (L' := [some (.inr 21), some (.inl l1), none, some (.inl (q6 25 (u 24 l3.toNatClampNeg).toNatClampNeg)), some (.inl (l4 + 1)), some (.inl (u 24 l3.toNatClampNeg))]) h dX3_settle_93 rfl rfl (by decide) rfl ?_
            refine r_goto (pc := 96) (tgt := 26) h dX3_settle_96 (by decide) ?_
            refine r_le [some (.inr 21), some (.inl l1), none, some (.inl (q6 25 (u 24 l3.toNatClampNeg).toNatClampNeg)), some (.inl (l4 + 1)), none] ⟨rfl, ⟨rfl, ⟨rfl, ⟨rfl, trivial⟩⟩⟩⟩ ?_
            exact ih _ _ _ _ hf
set_option maxRecDepth 100000 in
set_option maxHeartbeats 4000000 in
theorem w_X3_settle_0 {K : Kx} {E : Ex} (h : Ok shX K E RX3 cX3_settle 6 rm_X3_settle) {r : St} (hr : RetV shX K E cX3_settle 6 r) (u : St) (l1 l2 : Int32) (hf : f_X3_settle u l1 l2 = some r) : Vd shX K E 6 0 [some (.inr 21), some (.inl l1), some (.inl l2), none, none, none] [] u := by
  refine r_iload_n (pc := 0) h dX3_settle_0 rfl ?_
  refine r_iconst (pc := 1) (v := 0) h dX3_settle_1 (by decide) ?_
  refine r_bipush (pc := 2) (v := 11) h dX3_settle_2 (by decide) ?_
  refine p_b hf (fun q15 e16 hf => ?_)
  refine r_cNi (pc := 4) (st := []) h [.inl l2, .inl 0, .inl 11] cs_X6_isWithin nm_X3_72 (c_X6_isWithin e16) ⟨rfl, rfl, Nat.le_of_ble_eq_true rfl, Nat.le_of_ble_eq_true rfl⟩ (Nat.le_of_ble_eq_true rfl) dX3_settle_4 ?_
  refine p_ite hf (fun hc17 hf => ?_) (fun hc17 hf => ?_)
  · refine r_if_ne (pc := 7) (tgt := 11) h dX3_settle_7 (by decide) (fun q => absurd hc17 q) (fun _ => ?_)
    have hf := Option.some.inj hf
    subst hf
    exact hr 10 _ dX3_settle_10
  · refine r_if_ne (pc := 7) (tgt := 11) h dX3_settle_7 (by decide) (fun _ => ?_) (fun q => absurd q hc17)
    refine r_aload_n (pc := 11) h dX3_settle_11 rfl ?_
    refine gf_X3_9 (pc := 12) h dX3_settle_12 ?_
    refine r_iload_n (pc := 15) h dX3_settle_15 rfl ?_
    refine r_dup2 (pc := 16) h dX3_settle_16 ?_
    refine p_g hf (fun hi18 hf => ?_)
    refine r_iald (pc := 17) (k := 22) (v := (u 22 l2.toNatClampNeg)) h hshX_22 hi18 rfl dX3_settle_17 ?_
    refine r_iconst (pc := 18) (v := 1) h dX3_settle_18 (by decide) ?_
    refine r_isub (pc := 19) h dX3_settle_19 ?_
    refine r_iast (pc := 20) (k := 22) h hshX_22 hi18 dX3_settle_20 ?_
    refine r_iload_n (pc := 21) h dX3_settle_21 rfl ?_
    refine r_istore_n (pc := 22) (L' := [some (.inr 21), some (.inl l1), some (.inl l2), some (.inl l2), none, none]) h dX3_settle_22 (by decide) rfl ?_
    refine r_iconst (pc := 23) (v := 0) h dX3_settle_23 (by decide) ?_
    refine r_istore (pc := 24) (L' := [some (.inr 21), some (.inl l1), some (.inl l2), some (.inl l2), some (.inl 0), none]) h dX3_settle_24 (by decide) rfl ?_
    refine r_le [some (.inr 21), some (.inl l1), none, some (.inl l2), some (.inl 0), none] ⟨rfl, ⟨rfl, ⟨rfl, ⟨rfl, trivial⟩⟩⟩⟩ ?_
    exact w_X3_settle_26 h hr FU _ _ _ _ hf
theorem c_X3_settle {u : St} {l1 l2 : Int32} {r : St} (hf : f_X3_settle u l1 l2 = some r) : CtV shX yX3_settle cX3_settle 6 none rm_X3_settle [.inr 21, .inl l1, .inl l2] u r := ct_V (by decide +kernel) (Nat.le_of_ble_eq_true rfl) (fun K E h hr => w_X3_settle_0 h hr _ _ _ hf)
set_option maxRecDepth 100000 in
set_option maxHeartbeats 4000000 in
theorem w_X3_sendOn_14 {K : Kx} {E : Ex} (h : Ok shX K E RX3 cX3_sendOn 6 rm_X3_sendOn) {r : Int32 × St} (hr : RetI shX K E cX3_sendOn 6 r.1 r.2) : ∀ (n : Nat) (u : St) (l1 l2 l3 l4 : Int32), f_X3_sendOn_14 n u l1 l2 l3 l4 = some r → Vd shX K E 6 14 [some (.inr 21), some (.inl l1), some (.inl l2), some (.inl l3), some (.inl l4), none] [] u := by
  intro n
  induction n with
  | zero => intro u l1 l2 l3 l4 hf; cases hf
  | succ n ih =>
    intro u l1 l2 l3 l4 hf
    refine r_iload (pc := 14) h dX3_sendOn_14 rfl ?_
    refine r_iload_n (pc := 16) h dX3_sendOn_16 rfl ?_
    refine p_ite hf (fun hc1 hf => ?_) (fun hc1 hf => ?_)
    · refine r_icmp_ge (pc := 17) (tgt := 50) h dX3_sendOn_17 (by decide) (fun _ => ?_) (fun q => absurd hc1 q)
      refine r_iload_n (pc := 50) h dX3_sendOn_50 rfl ?_
      have hf := Option.some.inj hf
      subst hf
      exact hr 51 _ dX3_sendOn_51
    · refine r_icmp_ge (pc := 17) (tgt := 50) h dX3_sendOn_17 (by decide) (fun q => absurd q hc1) (fun _ => ?_)
      refine r_aload_n (pc := 20) h dX3_sendOn_20 rfl ?_
      refine r_iload_n (pc := 21) h dX3_sendOn_21 rfl ?_
      refine p_b hf (fun q2 e3 hf => ?_)
      refine r_cVi (pc := 22) (k := 21) (st := []) h [.inl l1] cv_X3_search wm_X3_46 (c_X3_search e3) ⟨rfl, rfl, Nat.le_of_ble_eq_true rfl, Nat.le_of_ble_eq_true rfl⟩ hshX_21 rfl rfl (Nat.le_of_ble_eq_true rfl) dX3_sendOn_22 ?_
      refine r_istore (pc := 25) (L' := [some (.inr 21), some (.inl l1), some (.inl l2), some (.inl l3), some (.inl l4), some (.inl q2.1)]) h dX3_sendOn_25 (by decide) rfl ?_
      refine r_iload (pc := 27) h dX3_sendOn_27 rfl ?_
      refine p_ite hf (fun hc4 hf => ?_) (fun hc4 hf => ?_)
      · refine r_if_ge (pc := 29) (tgt := 34) h dX3_sendOn_29 (by decide) (fun _ => ?_) (fun q => absurd hc4 q)
        refine r_aload_n (pc := 34) h dX3_sendOn_34 rfl ?_
        refine r_iload_n (pc := 35) h dX3_sendOn_35 rfl ?_
        refine r_iload (pc := 36) h dX3_sendOn_36 rfl ?_
        refine p_b hf (fun q5 e6 hf => ?_)
        refine r_cVv (pc := 38) (k := 21) (st := []) h [.inl l1, .inl q2.1] cv_X3_settle wm_X3_49 (c_X3_settle e6) ⟨rfl, rfl, Nat.le_of_ble_eq_true rfl, Nat.le_of_ble_eq_true rfl⟩ hshX_21 rfl rfl (Nat.le_of_ble_eq_true rfl) dX3_sendOn_38 ?_
        refine r_iinc (pc := 41) (v := (l2 + 1)) (L' := [some (.inr 21), some (.inl l1), some (.inl (l2 + 1)), some (.inl l3), some (.inl l4), some (.inl q2.1)]) h dX3_sendOn_41 rfl rfl (by decide) rfl ?_
        refine r_iinc (pc := 44) (v := (l4 + 1)) (L' := [some (.inr 21), some (.inl l1), some (.inl (l2 + 1)), some (.inl l3), some (.inl (l4 + 1)), some (.inl q2.1)]) h dX3_sendOn_44 rfl rfl (by decide) rfl ?_
        refine r_goto (pc := 47) (tgt := 14) h dX3_sendOn_47 (by decide) ?_
        refine r_le [some (.inr 21), some (.inl l1), some (.inl (l2 + 1)), some (.inl l3), some (.inl (l4 + 1)), none] ⟨rfl, ⟨rfl, ⟨rfl, ⟨rfl, ⟨rfl, trivial⟩⟩⟩⟩⟩ ?_
        exact ih _ _ _ _ _ hf
      · refine r_if_ge (pc := 29) (tgt := 34) h dX3_sendOn_29 (by decide) (fun q => absurd q hc4) (fun _ => ?_)
        refine r_iload_n (pc := 32) h dX3_sendOn_32 rfl ?_
        have hf := Option.some.inj hf
        subst hf
        exact hr 33 _ dX3_sendOn_33
set_option maxRecDepth 100000 in
set_option maxHeartbeats 4000000 in
theorem w_X3_sendOn_0 {K : Kx} {E : Ex} (h : Ok shX K E RX3 cX3_sendOn 6 rm_X3_sendOn) {r : Int32 × St} (hr : RetI shX K E cX3_sendOn 6 r.1 r.2) (u : St) (l1 : Int32) (hf : f_X3_sendOn u l1 = some r) : Vd shX K E 6 0 [some (.inr 21), some (.inl l1), none, none, none, none] [] u := by
  refine r_iconst (pc := 0) (v := 0) h dX3_sendOn_0 (by decide) ?_
  refine r_istore_n (pc := 1) (L' := [some (.inr 21), some (.inl l1), some (.inl 0), none, none, none]) h dX3_sendOn_1 (by decide) rfl ?_
  refine r_aload_n (pc := 2) h dX3_sendOn_2 rfl ?_
  refine gf_X3_27 (pc := 3) h dX3_sendOn_3 ?_
  refine r_iload_n (pc := 6) h dX3_sendOn_6 rfl ?_
  refine p_b hf (fun q7 e8 hf => ?_)
  refine r_cVi (pc := 7) (k := 15) (st := []) h [.inl l1] cv_X4_handsOf wm_X3_37 (c_X4_handsOf e8) ⟨rfl, rfl, Nat.le_of_ble_eq_true rfl, Nat.le_of_ble_eq_true rfl⟩ hshX_15 rfl rfl (Nat.le_of_ble_eq_true rfl) dX3_sendOn_7 ?_
  refine r_istore_n (pc := 10) (L' := [some (.inr 21), some (.inl l1), some (.inl 0), some (.inl q7), none, none]) h dX3_sendOn_10 (by decide) rfl ?_
  refine r_iconst (pc := 11) (v := 0) h dX3_sendOn_11 (by decide) ?_
  refine r_istore (pc := 12) (L' := [some (.inr 21), some (.inl l1), some (.inl 0), some (.inl q7), some (.inl 0), none]) h dX3_sendOn_12 (by decide) rfl ?_
  exact w_X3_sendOn_14 h hr FU _ _ _ _ _ hf
theorem c_X3_sendOn {u : St} {l1 : Int32} {r : Int32 × St} (hf : f_X3_sendOn u l1 = some r) : CtI shX yX3_sendOn cX3_sendOn 6 (some .int) rm_X3_sendOn [.inr 21, .inl l1] u r.1 r.2 := ct_I (by decide +kernel) (Nat.le_of_ble_eq_true rfl) (fun K E h hr => w_X3_sendOn_0 h hr _ _ hf)
set_option maxRecDepth 100000 in
set_option maxHeartbeats 4000000 in
theorem w_X3_fewest_49 {K : Kx} {E : Ex} (h : Ok shX K E RX3 cX3_fewest 3 rm_X3_fewest) {r : Int32 × St} (hr : RetI shX K E cX3_fewest 3 r.1 r.2) : ∀ (n : Nat) (u : St) (l1 l2 : Int32), f_X3_fewest_49 n u l1 l2 = some r → Vd shX K E 3 49 [some (.inr 21), some (.inl l1), some (.inl l2)] [] u := by
  intro n
  induction n with
  | zero => intro u l1 l2 hf; cases hf
  | succ n ih =>
    intro u l1 l2 hf
    refine r_iload_n (pc := 49) h dX3_fewest_49 rfl ?_
    refine r_bipush (pc := 50) (v := 12) h dX3_fewest_50 (by decide) ?_
    refine p_ite hf (fun hc1 hf => ?_) (fun hc1 hf => ?_)
    · refine r_icmp_ge (pc := 52) (tgt := 69) h dX3_fewest_52 (by decide) (fun _ => ?_) (fun q => absurd hc1 q)
      refine r_iload_n (pc := 69) h dX3_fewest_69 rfl ?_
      have hf := Option.some.inj hf
      subst hf
      exact hr 70 _ dX3_fewest_70
    · refine r_icmp_ge (pc := 52) (tgt := 69) h dX3_fewest_52 (by decide) (fun q => absurd q hc1) (fun _ => ?_)
      refine r_iload_n (pc := 55) h dX3_fewest_55 rfl ?_
      refine r_aload_n (pc := 56) h dX3_fewest_56 rfl ?_
      refine r_iload_n (pc := 57) h dX3_fewest_57 rfl ?_
      refine p_b hf (fun q2 e3 hf => ?_)
      refine r_cVi (pc := 58) (k := 21) (st := [.inl l1]) h [.inl l2] cv_X3_sendOn wm_X3_43 (c_X3_sendOn e3) ⟨rfl, rfl, Nat.le_of_ble_eq_true rfl, Nat.le_of_ble_eq_true rfl⟩ hshX_21 rfl rfl (Nat.le_of_ble_eq_true rfl) dX3_fewest_58 ?_
      refine r_isub (pc := 61) h dX3_fewest_61 ?_
      refine r_istore_n (pc := 62) (L' := [some (.inr 21), some (.inl (l1 - q2.1)), some (.inl l2)]) h dX3_fewest_62 (by decide) rfl ?_
      refine r_iinc (pc := 63) (v := (l2 + 1)) (L' := [some (.inr 21), some (.inl (l1 - q2.1)), some (.inl (l2 + 1))]) h dX3_fewest_63 rfl rfl (by decide) rfl ?_
      refine r_goto (pc := 66) (tgt := 49) h dX3_fewest_66 (by decide) ?_
      exact ih _ _ _ hf
set_option maxRecDepth 100000 in
set_option maxHeartbeats 4000000 in
theorem w_X3_fewest_12 {K : Kx} {E : Ex} (h : Ok shX K E RX3 cX3_fewest 3 rm_X3_fewest) {r : Int32 × St} (hr : RetI shX K E cX3_fewest 3 r.1 r.2) : ∀ (n : Nat) (u : St) (l1 l2 : Int32), f_X3_fewest_12 n u l1 l2 = some r → Vd shX K E 3 12 [some (.inr 21), some (.inl l1), some (.inl l2)] [] u := by
  intro n
  induction n with
  | zero => intro u l1 l2 hf; cases hf
  | succ n ih =>
    intro u l1 l2 hf
    refine r_iload_n (pc := 12) h dX3_fewest_12 rfl ?_
    refine r_bipush (pc := 13) (v := 12) h dX3_fewest_13 (by decide) ?_
    refine p_ite hf (fun hc4 hf => ?_) (fun hc4 hf => ?_)
    · refine r_icmp_ge (pc := 15) (tgt := 47) h dX3_fewest_15 (by decide) (fun _ => ?_) (fun q => absurd hc4 q)
      refine r_iconst (pc := 47) (v := 0) h dX3_fewest_47 (by decide) ?_
      refine r_istore_n (pc := 48) (L' := [some (.inr 21), some (.inl l1), some (.inl 0)]) h dX3_fewest_48 (by decide) rfl ?_
      exact w_X3_fewest_49 h hr FU _ _ _ hf
    · refine r_icmp_ge (pc := 15) (tgt := 47) h dX3_fewest_15 (by decide) (fun q => absurd q hc4) (fun _ => ?_)
      refine r_aload_n (pc := 18) h dX3_fewest_18 rfl ?_
      refine gf_X3_9 (pc := 19) h dX3_fewest_19 ?_
      refine r_iload_n (pc := 22) h dX3_fewest_22 rfl ?_
      refine r_aload_n (pc := 23) h dX3_fewest_23 rfl ?_
      refine gf_X3_27 (pc := 24) h dX3_fewest_24 ?_
      refine r_iload_n (pc := 27) h dX3_fewest_27 rfl ?_
      refine p_b hf (fun q5 e6 hf => ?_)
      refine r_cVi (pc := 28) (k := 15) (st := [.inl l2, .inr 22]) h [.inl l2] cv_X4_handsOf wm_X3_37 (c_X4_handsOf e6) ⟨rfl, rfl, Nat.le_of_ble_eq_true rfl, Nat.le_of_ble_eq_true rfl⟩ hshX_15 rfl rfl (Nat.le_of_ble_eq_true rfl) dX3_fewest_28 ?_
      refine p_g hf (fun hi7 hf => ?_)
      refine r_iast (pc := 31) (k := 22) h hshX_22 hi7 dX3_fewest_31 ?_
      refine r_iload_n (pc := 32) h dX3_fewest_32 rfl ?_
      refine r_aload_n (pc := 33) h dX3_fewest_33 rfl ?_
      refine gf_X3_9 (pc := 34) h dX3_fewest_34 ?_
      refine r_iload_n (pc := 37) h dX3_fewest_37 rfl ?_
      refine r_iald (pc := 38) (k := 22) (v := (upd (u 22) l2.toNatClampNeg q5 l2.toNatClampNeg)) h hshX_22 hi7 rfl dX3_fewest_38 ?_
      refine r_iadd (pc := 39) h dX3_fewest_39 ?_
      refine r_istore_n (pc := 40) (L' := [some (.inr 21), some (.inl (l1 + (upd (u 22) l2.toNatClampNeg q5 l2.toNatClampNeg))), some (.inl l2)]) h dX3_fewest_40 (by decide) rfl ?_
      refine r_iinc (pc := 41) (v := (l2 + 1)) (L' := [some (.inr 21), some (.inl (l1 + (upd (u 22) l2.toNatClampNeg q5 l2.toNatClampNeg))), some (.inl (l2 + 1))]) h dX3_fewest_41 rfl rfl (by decide) rfl ?_
      refine r_goto (pc := 44) (tgt := 12) h dX3_fewest_44 (by decide) ?_
      exact ih _ _ _ hf
set_option maxRecDepth 100000 in
set_option maxHeartbeats 4000000 in
theorem w_X3_fewest_0 {K : Kx} {E : Ex} (h : Ok shX K E RX3 cX3_fewest 3 rm_X3_fewest) {r : Int32 × St} (hr : RetI shX K E cX3_fewest 3 r.1 r.2) (u : St) (hf : f_X3_fewest u = some r) : Vd shX K E 3 0 [some (.inr 21), none, none] [] u := by
  refine r_iconst (pc := 0) (v := 0) h dX3_fewest_0 (by decide) ?_
  refine r_istore_n (pc := 1) (L' := [some (.inr 21), some (.inl 0), none]) h dX3_fewest_1 (by decide) rfl ?_
  refine r_aload_n (pc := 2) h dX3_fewest_2 rfl ?_
  refine gf_X3_15 (pc := 3) h dX3_fewest_3 ?_
  refine r_iconst (pc := 6) (v := 0) h dX3_fewest_6 (by decide) ?_
  refine p_b hf (fun q8 e9 hf => ?_)
  refine r_cSv (pc := 7) (st := []) h [.inr 23, .inl 0] cs_J7_fill_53178 wm_X3_31 (c_J7_fill_23 e9) ⟨rfl, rfl, Nat.le_of_ble_eq_true rfl, Nat.le_of_ble_eq_true rfl⟩ (Nat.le_of_ble_eq_true rfl) dX3_fewest_7 ?_
  refine r_iconst (pc := 10) (v := 0) h dX3_fewest_10 (by decide) ?_
  refine r_istore_n (pc := 11) (L' := [some (.inr 21), some (.inl 0), some (.inl 0)]) h dX3_fewest_11 (by decide) rfl ?_
  exact w_X3_fewest_12 h hr FU _ _ _ hf
theorem c_X3_fewest {u : St} {r : Int32 × St} (hf : f_X3_fewest u = some r) : CtI shX yX3_fewest cX3_fewest 3 (some .int) rm_X3_fewest [.inr 21] u r.1 r.2 := ct_I (by decide +kernel) (Nat.le_of_ble_eq_true rfl) (fun K E h hr => w_X3_fewest_0 h hr _ hf)
set_option maxRecDepth 100000 in
set_option maxHeartbeats 4000000 in
theorem w_X6_dressers_0 {K : Kx} {E : Ex} (h : Ok shX K E RX6 cX6_dressers 1 rm_X6_dressers) {r : Int32 × St} (hr : RetI shX K E cX6_dressers 1 r.1 r.2) (u : St) (hf : f_X6_dressers u = some r) : Vd shX K E 1 0 [some (.inr 0)] [] u := by
  refine r_aload_n (pc := 0) h dX6_dressers_0 rfl ?_
  refine gf_X6_44 (pc := 1) h dX6_dressers_1 ?_
  refine p_b hf (fun q1 e2 hf => ?_)
  refine r_cVi (pc := 4) (k := 21) (st := []) h [] cv_X3_fewest wm_X6_176 (c_X3_fewest e2) ⟨rfl, rfl, Nat.le_of_ble_eq_true rfl, Nat.le_of_ble_eq_true rfl⟩ hshX_21 rfl rfl (Nat.le_of_ble_eq_true rfl) dX6_dressers_4 ?_
  have hf := Option.some.inj hf
  subst hf
  exact hr 7 _ dX6_dressers_7
theorem c_X6_dressers {u : St} {r : Int32 × St} (hf : f_X6_dressers u = some r) : CtI shX yX6_dressers cX6_dressers 1 (some .int) rm_X6_dressers [.inr 0] u r.1 r.2 := ct_I (by decide +kernel) (Nat.le_of_ble_eq_true rfl) (fun K E h hr => w_X6_dressers_0 h hr _ hf)
set_option maxRecDepth 100000 in
set_option maxHeartbeats 4000000 in
theorem w_X6_worn_0 {K : Kx} {E : Ex} (h : Ok shX K E RX6 cX6_worn 2 rm_X6_worn) {r : Int32 × St} (hr : RetI shX K E cX6_worn 2 r.1 r.2) (u : St) (l1 : Int32) (hf : f_X6_worn u l1 = some r) : Vd shX K E 2 0 [some (.inr 0), some (.inl l1)] [] u := by
  refine r_aload_n (pc := 0) h dX6_worn_0 rfl ?_
  refine gf_X6_10 (pc := 1) h dX6_worn_1 ?_
  refine r_iload_n (pc := 4) h dX6_worn_4 rfl ?_
  refine p_b hf (fun q1 e2 hf => ?_)
  refine r_cVi (pc := 5) (k := 1) (st := []) h [.inl l1] cv_X5_has wm_X6_84 (c_X5_has e2) ⟨rfl, rfl, Nat.le_of_ble_eq_true rfl, Nat.le_of_ble_eq_true rfl⟩ hshX_1 rfl rfl (Nat.le_of_ble_eq_true rfl) dX6_worn_5 ?_
  refine p_ite hf (fun hc3 hf => ?_) (fun hc3 hf => ?_)
  · refine r_if_ne (pc := 8) (tgt := 17) h dX6_worn_8 (by decide) (fun q => absurd hc3 q) (fun _ => ?_)
    refine r_aload_n (pc := 11) h dX6_worn_11 rfl ?_
    refine r_iconst (pc := 12) (v := 1) h dX6_worn_12 (by decide) ?_
    refine p_b hf (fun q11 e12 hf => ?_)
    refine r_cVi (pc := 13) (k := 0) (st := []) h [.inl 1] cv_X6_finding wm_X6_72 (c_X6_finding e12) ⟨rfl, rfl, Nat.le_of_ble_eq_true rfl, Nat.le_of_ble_eq_true rfl⟩ hshX_0 rfl rfl (Nat.le_of_ble_eq_true rfl) dX6_worn_13 ?_
    have hf := Option.some.inj hf
    subst hf
    exact hr 16 _ dX6_worn_16
  · refine r_if_ne (pc := 8) (tgt := 17) h dX6_worn_8 (by decide) (fun _ => ?_) (fun q => absurd q hc3)
    refine r_aload_n (pc := 17) h dX6_worn_17 rfl ?_
    refine gf_X6_10 (pc := 18) h dX6_worn_18 ?_
    refine r_iload_n (pc := 21) h dX6_worn_21 rfl ?_
    refine r_bipush (pc := 22) (v := 8) h dX6_worn_22 (by decide) ?_
    refine p_b hf (fun q4 e5 hf => ?_)
    refine r_cVi (pc := 24) (k := 1) (st := []) h [.inl l1, .inl 8] cv_X5_fact wm_X6_91 (c_X5_fact e5) ⟨rfl, rfl, Nat.le_of_ble_eq_true rfl, Nat.le_of_ble_eq_true rfl⟩ hshX_1 rfl rfl (Nat.le_of_ble_eq_true rfl) dX6_worn_24 ?_
    refine p_ite hf (fun hc6 hf => ?_) (fun hc6 hf => ?_)
    · refine r_if_eq (pc := 27) (tgt := 36) h dX6_worn_27 (by decide) (fun _ => ?_) (fun q => absurd hc6 q)
      refine r_aload_n (pc := 36) h dX6_worn_36 rfl ?_
      refine gf_X6_10 (pc := 37) h dX6_worn_37 ?_
      refine r_iload_n (pc := 40) h dX6_worn_40 rfl ?_
      refine r_iconst (pc := 41) (v := 1) h dX6_worn_41 (by decide) ?_
      refine r_iconst (pc := 42) (v := 0) h dX6_worn_42 (by decide) ?_
      refine p_b hf (fun q7 e8 hf => ?_)
      refine r_cVv (pc := 43) (k := 1) (st := []) h [.inl l1, .inl 1, .inl 0] cv_X5_place wm_X6_179 (c_X5_place e8) ⟨rfl, rfl, Nat.le_of_ble_eq_true rfl, Nat.le_of_ble_eq_true rfl⟩ hshX_1 rfl rfl (Nat.le_of_ble_eq_true rfl) dX6_worn_43 ?_
      refine r_iconst (pc := 46) (v := 1) h dX6_worn_46 (by decide) ?_
      have hf := Option.some.inj hf
      subst hf
      exact hr 47 _ dX6_worn_47
    · refine r_if_eq (pc := 27) (tgt := 36) h dX6_worn_27 (by decide) (fun q => absurd q hc6) (fun _ => ?_)
      refine r_aload_n (pc := 30) h dX6_worn_30 rfl ?_
      refine r_iconst (pc := 31) (v := 3) h dX6_worn_31 (by decide) ?_
      refine p_b hf (fun q9 e10 hf => ?_)
      refine r_cVi (pc := 32) (k := 0) (st := []) h [.inl 3] cv_X6_finding wm_X6_72 (c_X6_finding e10) ⟨rfl, rfl, Nat.le_of_ble_eq_true rfl, Nat.le_of_ble_eq_true rfl⟩ hshX_0 rfl rfl (Nat.le_of_ble_eq_true rfl) dX6_worn_32 ?_
      have hf := Option.some.inj hf
      subst hf
      exact hr 35 _ dX6_worn_35
theorem c_X6_worn {u : St} {l1 : Int32} {r : Int32 × St} (hf : f_X6_worn u l1 = some r) : CtI shX yX6_worn cX6_worn 2 (some .int) rm_X6_worn [.inr 0, .inl l1] u r.1 r.2 := ct_I (by decide +kernel) (Nat.le_of_ble_eq_true rfl) (fun K E h hr => w_X6_worn_0 h hr _ _ hf)
set_option maxRecDepth 100000 in
set_option maxHeartbeats 4000000 in
theorem w_X5_countInWash_4 {K : Kx} {E : Ex} (h : Ok shX K E RX5 cX5_countInWash 3 rm_X5_countInWash) {r : Int32} {u : St} (hr : RetI shX K E cX5_countInWash 3 r u) : ∀ (n : Nat) (l1 l2 : Int32), f_X5_countInWash_4 u n l1 l2 = some r → Vd shX K E 3 4 [some (.inr 1), some (.inl l1), some (.inl l2)] [] u := by
  intro n
  induction n with
  | zero => intro l1 l2 hf; cases hf
  | succ n ih =>
    intro l1 l2 hf
    refine r_iload_n (pc := 4) h dX5_countInWash_4 rfl ?_
    refine r_aload_n (pc := 5) h dX5_countInWash_5 rfl ?_
    refine gf_X5_15 (pc := 6) (v := (u 1 1)) h rfl dX5_countInWash_6 ?_
    refine p_ite hf (fun hc1 hf => ?_) (fun hc1 hf => ?_)
    · refine r_icmp_ge (pc := 9) (tgt := 32) h dX5_countInWash_9 (by decide) (fun _ => ?_) (fun q => absurd hc1 q)
      refine r_iload_n (pc := 32) h dX5_countInWash_32 rfl ?_
      have hf := Option.some.inj hf
      subst hf
      exact hr 33 _ dX5_countInWash_33
    · refine r_icmp_ge (pc := 9) (tgt := 32) h dX5_countInWash_9 (by decide) (fun q => absurd q hc1) (fun _ => ?_)
      refine r_aload_n (pc := 12) h dX5_countInWash_12 rfl ?_
      refine r_iload_n (pc := 13) h dX5_countInWash_13 rfl ?_
      refine r_bipush (pc := 14) (v := 8) h dX5_countInWash_14 (by decide) ?_
      refine p_b hf (fun q2 e3 hf => ?_)
      refine r_cVi (pc := 16) (k := 1) (st := []) h [.inl l2, .inl 8] cv_X5_fact wm_X5_55 (c_X5_fact e3) ⟨rfl, rfl, Nat.le_of_ble_eq_true rfl, Nat.le_of_ble_eq_true rfl⟩ hshX_1 rfl rfl (Nat.le_of_ble_eq_true rfl) dX5_countInWash_16 ?_
      refine r_iconst (pc := 19) (v := 2) h dX5_countInWash_19 (by decide) ?_
      refine p_ite hf (fun hc4 hf => ?_) (fun hc4 hf => ?_)
      · refine r_icmp_ne (pc := 20) (tgt := 26) h dX5_countInWash_20 (by decide) (fun q => absurd hc4 q) (fun _ => ?_)
        refine r_iinc (pc := 23) (v := (l1 + 1)) (L' := [some (.inr 1), some (.inl (l1 + 1)), some (.inl l2)]) h dX5_countInWash_23 rfl rfl (by decide) rfl ?_
        refine r_iinc (pc := 26) (v := (l2 + 1)) (L' := [some (.inr 1), some (.inl (l1 + 1)), some (.inl (l2 + 1))]) h dX5_countInWash_26 rfl rfl (by decide) rfl ?_
        refine r_goto (pc := 29) (tgt := 4) h dX5_countInWash_29 (by decide) ?_
        exact ih _ _ hf
      · refine r_icmp_ne (pc := 20) (tgt := 26) h dX5_countInWash_20 (by decide) (fun _ => ?_) (fun q => absurd q hc4)
        refine r_iinc (pc := 26) (v := (l2 + 1)) (L' := [some (.inr 1), some (.inl l1), some (.inl (l2 + 1))]) h dX5_countInWash_26 rfl rfl (by decide) rfl ?_
        refine r_goto (pc := 29) (tgt := 4) h dX5_countInWash_29 (by decide) ?_
        exact ih _ _ hf
set_option maxRecDepth 100000 in
set_option maxHeartbeats 4000000 in
theorem w_X5_countInWash_0 {K : Kx} {E : Ex} (h : Ok shX K E RX5 cX5_countInWash 3 rm_X5_countInWash) {r : Int32} {u : St} (hr : RetI shX K E cX5_countInWash 3 r u)  (hf : f_X5_countInWash u = some r) : Vd shX K E 3 0 [some (.inr 1), none, none] [] u := by
  refine r_iconst (pc := 0) (v := 0) h dX5_countInWash_0 (by decide) ?_
  refine r_istore_n (pc := 1) (L' := [some (.inr 1), some (.inl 0), none]) h dX5_countInWash_1 (by decide) rfl ?_
  refine r_iconst (pc := 2) (v := 0) h dX5_countInWash_2 (by decide) ?_
  refine r_istore_n (pc := 3) (L' := [some (.inr 1), some (.inl 0), some (.inl 0)]) h dX5_countInWash_3 (by decide) rfl ?_
  exact w_X5_countInWash_4 h hr FU _ _ hf
theorem c_X5_countInWash {u : St} {r : Int32} (hf : f_X5_countInWash u = some r) : CtI shX yX5_countInWash cX5_countInWash 3 (some .int) rm_X5_countInWash [.inr 1] u r u := ct_I (by decide +kernel) (Nat.le_of_ble_eq_true rfl) (fun K E h hr => w_X5_countInWash_0 h hr  hf)
set_option maxRecDepth 100000 in
set_option maxHeartbeats 4000000 in
theorem w_X5_soak_0 {K : Kx} {E : Ex} (h : Ok shX K E RX5 cX5_soak 3 rm_X5_soak) {r : Int32 × St} (hr : RetI shX K E cX5_soak 3 r.1 r.2) (u : St) (l1 : Int32) (hf : f_X5_soak u l1 = some r) : Vd shX K E 3 0 [some (.inr 1), some (.inl l1), none] [] u := by
  refine r_aload_n (pc := 0) h dX5_soak_0 rfl ?_
  refine gf_X5_68 (pc := 1) (v := (u 1 2)) h rfl dX5_soak_1 ?_
  refine r_iconst (pc := 4) (v := 2) h dX5_soak_4 (by decide) ?_
  refine r_iadd (pc := 5) h dX5_soak_5 ?_
  refine r_istore_n (pc := 6) (L' := [some (.inr 1), some (.inl l1), some (.inl ((u 1 2) + 2))]) h dX5_soak_6 (by decide) rfl ?_
  refine r_aload_n (pc := 7) h dX5_soak_7 rfl ?_
  refine r_iload_n (pc := 8) h dX5_soak_8 rfl ?_
  refine r_iconst (pc := 9) (v := 2) h dX5_soak_9 (by decide) ?_
  refine r_iload_n (pc := 10) h dX5_soak_10 rfl ?_
  refine p_b hf (fun q1 e2 hf => ?_)
  refine r_cVv (pc := 11) (k := 1) (st := []) h [.inl l1, .inl 2, .inl ((u 1 2) + 2)] cv_X5_place wm_X5_52 (c_X5_place e2) ⟨rfl, rfl, Nat.le_of_ble_eq_true rfl, Nat.le_of_ble_eq_true rfl⟩ hshX_1 rfl rfl (Nat.le_of_ble_eq_true rfl) dX5_soak_11 ?_
  refine r_iload_n (pc := 14) h dX5_soak_14 rfl ?_
  refine r_aload_n (pc := 15) h dX5_soak_15 rfl ?_
  refine r_iload_n (pc := 16) h dX5_soak_16 rfl ?_
  refine r_iconst (pc := 17) (v := 2) h dX5_soak_17 (by decide) ?_
  refine p_b hf (fun q3 e4 hf => ?_)
  refine r_cVi (pc := 18) (k := 1) (st := [.inl ((u 1 2) + 2)]) h [.inl l1, .inl 2] cv_X5_fact wm_X5_55 (c_X5_fact e4) ⟨rfl, rfl, Nat.le_of_ble_eq_true rfl, Nat.le_of_ble_eq_true rfl⟩ hshX_1 rfl rfl (Nat.le_of_ble_eq_true rfl) dX5_soak_18 ?_
  refine r_iadd (pc := 21) h dX5_soak_21 ?_
  have hf := Option.some.inj hf
  subst hf
  exact hr 22 _ dX5_soak_22
theorem c_X5_soak {u : St} {l1 : Int32} {r : Int32 × St} (hf : f_X5_soak u l1 = some r) : CtI shX yX5_soak cX5_soak 3 (some .int) rm_X5_soak [.inr 1, .inl l1] u r.1 r.2 := ct_I (by decide +kernel) (Nat.le_of_ble_eq_true rfl) (fun K E h hr => w_X5_soak_0 h hr _ _ hf)
set_option maxRecDepth 100000 in
set_option maxHeartbeats 4000000 in
theorem w_X6_wash_0 {K : Kx} {E : Ex} (h : Ok shX K E RX6 cX6_wash 2 rm_X6_wash) {r : Int32 × St} (hr : RetI shX K E cX6_wash 2 r.1 r.2) (u : St) (l1 : Int32) (hf : f_X6_wash u l1 = some r) : Vd shX K E 2 0 [some (.inr 0), some (.inl l1)] [] u := by
  refine r_aload_n (pc := 0) h dX6_wash_0 rfl ?_
  refine gf_X6_10 (pc := 1) h dX6_wash_1 ?_
  refine r_iload_n (pc := 4) h dX6_wash_4 rfl ?_
  refine p_b hf (fun q1 e2 hf => ?_)
  refine r_cVi (pc := 5) (k := 1) (st := []) h [.inl l1] cv_X5_has wm_X6_84 (c_X5_has e2) ⟨rfl, rfl, Nat.le_of_ble_eq_true rfl, Nat.le_of_ble_eq_true rfl⟩ hshX_1 rfl rfl (Nat.le_of_ble_eq_true rfl) dX6_wash_5 ?_
  refine p_ite hf (fun hc3 hf => ?_) (fun hc3 hf => ?_)
  · refine r_if_ne (pc := 8) (tgt := 17) h dX6_wash_8 (by decide) (fun q => absurd hc3 q) (fun _ => ?_)
    refine r_aload_n (pc := 11) h dX6_wash_11 rfl ?_
    refine r_iconst (pc := 12) (v := 1) h dX6_wash_12 (by decide) ?_
    refine p_b hf (fun q16 e17 hf => ?_)
    refine r_cVi (pc := 13) (k := 0) (st := []) h [.inl 1] cv_X6_finding wm_X6_72 (c_X6_finding e17) ⟨rfl, rfl, Nat.le_of_ble_eq_true rfl, Nat.le_of_ble_eq_true rfl⟩ hshX_0 rfl rfl (Nat.le_of_ble_eq_true rfl) dX6_wash_13 ?_
    have hf := Option.some.inj hf
    subst hf
    exact hr 16 _ dX6_wash_16
  · refine r_if_ne (pc := 8) (tgt := 17) h dX6_wash_8 (by decide) (fun _ => ?_) (fun q => absurd q hc3)
    refine r_aload_n (pc := 17) h dX6_wash_17 rfl ?_
    refine gf_X6_10 (pc := 18) h dX6_wash_18 ?_
    refine r_iload_n (pc := 21) h dX6_wash_21 rfl ?_
    refine r_bipush (pc := 22) (v := 8) h dX6_wash_22 (by decide) ?_
    refine p_b hf (fun q4 e5 hf => ?_)
    refine r_cVi (pc := 24) (k := 1) (st := []) h [.inl l1, .inl 8] cv_X5_fact wm_X6_91 (c_X5_fact e5) ⟨rfl, rfl, Nat.le_of_ble_eq_true rfl, Nat.le_of_ble_eq_true rfl⟩ hshX_1 rfl rfl (Nat.le_of_ble_eq_true rfl) dX6_wash_24 ?_
    refine r_iconst (pc := 27) (v := 1) h dX6_wash_27 (by decide) ?_
    refine p_ite hf (fun hc6 hf => ?_) (fun hc6 hf => ?_)
    · refine r_icmp_eq (pc := 28) (tgt := 37) h dX6_wash_28 (by decide) (fun _ => ?_) (fun q => absurd hc6 q)
      refine r_aload_n (pc := 37) h dX6_wash_37 rfl ?_
      refine gf_X6_10 (pc := 38) h dX6_wash_38 ?_
      refine p_b hf (fun q7 e8 hf => ?_)
      refine r_cVi (pc := 41) (k := 1) (st := []) h [] cv_X5_countInWash wm_X6_183 (c_X5_countInWash e8) ⟨rfl, rfl, Nat.le_of_ble_eq_true rfl, Nat.le_of_ble_eq_true rfl⟩ hshX_1 rfl rfl (Nat.le_of_ble_eq_true rfl) dX6_wash_41 ?_
      refine r_bipush (pc := 44) (v := 6) h dX6_wash_44 (by decide) ?_
      refine p_ite hf (fun hc9 hf => ?_) (fun hc9 hf => ?_)
      · refine r_icmp_lt (pc := 46) (tgt := 55) h dX6_wash_46 (by decide) (fun _ => ?_) (fun q => absurd hc9 q)
        refine r_aload_n (pc := 55) h dX6_wash_55 rfl ?_
        refine gf_X6_10 (pc := 56) h dX6_wash_56 ?_
        refine r_iload_n (pc := 59) h dX6_wash_59 rfl ?_
        refine p_b hf (fun q10 e11 hf => ?_)
        refine r_cVi (pc := 60) (k := 1) (st := []) h [.inl l1] cv_X5_soak wm_X6_186 (c_X5_soak e11) ⟨rfl, rfl, Nat.le_of_ble_eq_true rfl, Nat.le_of_ble_eq_true rfl⟩ hshX_1 rfl rfl (Nat.le_of_ble_eq_true rfl) dX6_wash_60 ?_
        have hf := Option.some.inj hf
        subst hf
        exact hr 63 _ dX6_wash_63
      · refine r_icmp_lt (pc := 46) (tgt := 55) h dX6_wash_46 (by decide) (fun q => absurd q hc9) (fun _ => ?_)
        refine r_aload_n (pc := 49) h dX6_wash_49 rfl ?_
        refine r_iconst (pc := 50) (v := 4) h dX6_wash_50 (by decide) ?_
        refine p_b hf (fun q12 e13 hf => ?_)
        refine r_cVi (pc := 51) (k := 0) (st := []) h [.inl 4] cv_X6_finding wm_X6_72 (c_X6_finding e13) ⟨rfl, rfl, Nat.le_of_ble_eq_true rfl, Nat.le_of_ble_eq_true rfl⟩ hshX_0 rfl rfl (Nat.le_of_ble_eq_true rfl) dX6_wash_51 ?_
        have hf := Option.some.inj hf
        subst hf
        exact hr 54 _ dX6_wash_54
    · refine r_icmp_eq (pc := 28) (tgt := 37) h dX6_wash_28 (by decide) (fun q => absurd q hc6) (fun _ => ?_)
      refine r_aload_n (pc := 31) h dX6_wash_31 rfl ?_
      refine r_iconst (pc := 32) (v := 3) h dX6_wash_32 (by decide) ?_
      refine p_b hf (fun q14 e15 hf => ?_)
      refine r_cVi (pc := 33) (k := 0) (st := []) h [.inl 3] cv_X6_finding wm_X6_72 (c_X6_finding e15) ⟨rfl, rfl, Nat.le_of_ble_eq_true rfl, Nat.le_of_ble_eq_true rfl⟩ hshX_0 rfl rfl (Nat.le_of_ble_eq_true rfl) dX6_wash_33 ?_
      have hf := Option.some.inj hf
      subst hf
      exact hr 36 _ dX6_wash_36
theorem c_X6_wash {u : St} {l1 : Int32} {r : Int32 × St} (hf : f_X6_wash u l1 = some r) : CtI shX yX6_wash cX6_wash 2 (some .int) rm_X6_wash [.inr 0, .inl l1] u r.1 r.2 := ct_I (by decide +kernel) (Nat.le_of_ble_eq_true rfl) (fun K E h hr => w_X6_wash_0 h hr _ _ hf)
set_option maxRecDepth 100000 in
set_option maxHeartbeats 4000000 in
theorem w_X5_dries_45 {K : Kx} {E : Ex} (h : Ok shX K E RX5 cX5_dries 2 rm_X5_dries) {r : Int32 × St} (hr : RetZ shX K E cX5_dries 2 r.1 r.2) (u : St) (l1 : Int32) (hf : f_X5_dries_45 u l1 = some r) : Vd shX K E 2 45 [some (.inr 1), some (.inl l1)] [] u := by
  refine r_aload_n (pc := 45) h dX5_dries_45 rfl ?_
  refine r_iload_n (pc := 46) h dX5_dries_46 rfl ?_
  refine r_bipush (pc := 47) (v := 8) h dX5_dries_47 (by decide) ?_
  refine p_b hf (fun q1 e2 hf => ?_)
  refine r_cVi (pc := 49) (k := 1) (st := []) h [.inl l1, .inl 8] cv_X5_fact wm_X5_55 (c_X5_fact e2) ⟨rfl, rfl, Nat.le_of_ble_eq_true rfl, Nat.le_of_ble_eq_true rfl⟩ hshX_1 rfl rfl (Nat.le_of_ble_eq_true rfl) dX5_dries_49 ?_
  refine r_iconst (pc := 52) (v := 3) h dX5_dries_52 (by decide) ?_
  refine p_ite hf (fun hc3 hf => ?_) (fun hc3 hf => ?_)
  · refine r_icmp_ne (pc := 53) (tgt := 79) h dX5_dries_53 (by decide) (fun q => absurd hc3 q) (fun _ => ?_)
    refine r_aload_n (pc := 56) h dX5_dries_56 rfl ?_
    refine r_iload_n (pc := 57) h dX5_dries_57 rfl ?_
    refine r_bipush (pc := 58) (v := 9) h dX5_dries_58 (by decide) ?_
    refine p_b hf (fun q4 e5 hf => ?_)
    refine r_cVi (pc := 60) (k := 1) (st := []) h [.inl l1, .inl 9] cv_X5_fact wm_X5_55 (c_X5_fact e5) ⟨rfl, rfl, Nat.le_of_ble_eq_true rfl, Nat.le_of_ble_eq_true rfl⟩ hshX_1 rfl rfl (Nat.le_of_ble_eq_true rfl) dX5_dries_60 ?_
    refine r_aload_n (pc := 63) h dX5_dries_63 rfl ?_
    refine gf_X5_68 (pc := 64) (v := (u 1 2)) h rfl dX5_dries_64 ?_
    refine p_ite hf (fun hc6 hf => ?_) (fun hc6 hf => ?_)
    · refine r_icmp_gt (pc := 67) (tgt := 79) h dX5_dries_67 (by decide) (fun _ => ?_) (fun q => absurd hc6 q)
      refine r_iconst (pc := 79) (v := 0) h dX5_dries_79 (by decide) ?_
      have hf := Option.some.inj hf
      subst hf
      exact hr 80 _ dX5_dries_80 z_0
    · refine r_icmp_gt (pc := 67) (tgt := 79) h dX5_dries_67 (by decide) (fun q => absurd q hc6) (fun _ => ?_)
      refine r_aload_n (pc := 70) h dX5_dries_70 rfl ?_
      refine r_iload_n (pc := 71) h dX5_dries_71 rfl ?_
      refine r_iconst (pc := 72) (v := 0) h dX5_dries_72 (by decide) ?_
      refine r_iconst (pc := 73) (v := 0) h dX5_dries_73 (by decide) ?_
      refine p_b hf (fun q7 e8 hf => ?_)
      refine r_cVv (pc := 74) (k := 1) (st := []) h [.inl l1, .inl 0, .inl 0] cv_X5_place wm_X5_52 (c_X5_place e8) ⟨rfl, rfl, Nat.le_of_ble_eq_true rfl, Nat.le_of_ble_eq_true rfl⟩ hshX_1 rfl rfl (Nat.le_of_ble_eq_true rfl) dX5_dries_74 ?_
      refine r_iconst (pc := 77) (v := 1) h dX5_dries_77 (by decide) ?_
      have hf := Option.some.inj hf
      subst hf
      exact hr 78 _ dX5_dries_78 z_1
  · refine r_icmp_ne (pc := 53) (tgt := 79) h dX5_dries_53 (by decide) (fun _ => ?_) (fun q => absurd q hc3)
    refine r_iconst (pc := 79) (v := 0) h dX5_dries_79 (by decide) ?_
    have hf := Option.some.inj hf
    subst hf
    exact hr 80 _ dX5_dries_80 z_0
set_option maxRecDepth 100000 in
set_option maxHeartbeats 4000000 in
theorem w_X5_dries_0 {K : Kx} {E : Ex} (h : Ok shX K E RX5 cX5_dries 2 rm_X5_dries) {r : Int32 × St} (hr : RetZ shX K E cX5_dries 2 r.1 r.2) (u : St) (l1 : Int32) (hf : f_X5_dries u l1 = some r) : Vd shX K E 2 0 [some (.inr 1), some (.inl l1)] [] u := by
  refine r_aload_n (pc := 0) h dX5_dries_0 rfl ?_
  refine r_iload_n (pc := 1) h dX5_dries_1 rfl ?_
  refine r_bipush (pc := 2) (v := 8) h dX5_dries_2 (by decide) ?_
  refine p_b hf (fun q9 e10 hf => ?_)
  refine r_cVi (pc := 4) (k := 1) (st := []) h [.inl l1, .inl 8] cv_X5_fact wm_X5_55 (c_X5_fact e10) ⟨rfl, rfl, Nat.le_of_ble_eq_true rfl, Nat.le_of_ble_eq_true rfl⟩ hshX_1 rfl rfl (Nat.le_of_ble_eq_true rfl) dX5_dries_4 ?_
  refine r_iconst (pc := 7) (v := 2) h dX5_dries_7 (by decide) ?_
  refine p_ite hf (fun hc11 hf => ?_) (fun hc11 hf => ?_)
  · refine r_icmp_ne (pc := 8) (tgt := 45) h dX5_dries_8 (by decide) (fun q => absurd hc11 q) (fun _ => ?_)
    refine r_aload_n (pc := 11) h dX5_dries_11 rfl ?_
    refine r_iload_n (pc := 12) h dX5_dries_12 rfl ?_
    refine r_bipush (pc := 13) (v := 9) h dX5_dries_13 (by decide) ?_
    refine p_b hf (fun q12 e13 hf => ?_)
    refine r_cVi (pc := 15) (k := 1) (st := []) h [.inl l1, .inl 9] cv_X5_fact wm_X5_55 (c_X5_fact e13) ⟨rfl, rfl, Nat.le_of_ble_eq_true rfl, Nat.le_of_ble_eq_true rfl⟩ hshX_1 rfl rfl (Nat.le_of_ble_eq_true rfl) dX5_dries_15 ?_
    refine r_aload_n (pc := 18) h dX5_dries_18 rfl ?_
    refine gf_X5_68 (pc := 19) (v := (u 1 2)) h rfl dX5_dries_19 ?_
    refine p_ite hf (fun hc14 hf => ?_) (fun hc14 hf => ?_)
    · refine r_icmp_gt (pc := 22) (tgt := 45) h dX5_dries_22 (by decide) (fun _ => ?_) (fun q => absurd hc14 q)
      exact w_X5_dries_45 h hr _ _ hf
    · refine r_icmp_gt (pc := 22) (tgt := 45) h dX5_dries_22 (by decide) (fun q => absurd q hc14) (fun _ => ?_)
      refine r_aload_n (pc := 25) h dX5_dries_25 rfl ?_
      refine r_iload_n (pc := 26) h dX5_dries_26 rfl ?_
      refine r_iconst (pc := 27) (v := 3) h dX5_dries_27 (by decide) ?_
      refine r_aload_n (pc := 28) h dX5_dries_28 rfl ?_
      refine r_iload_n (pc := 29) h dX5_dries_29 rfl ?_
      refine r_bipush (pc := 30) (v := 9) h dX5_dries_30 (by decide) ?_
      refine p_b hf (fun q15 e16 hf => ?_)
      refine r_cVi (pc := 32) (k := 1) (st := [.inl 3, .inl l1, .inr 1]) h [.inl l1, .inl 9] cv_X5_fact wm_X5_55 (c_X5_fact e16) ⟨rfl, rfl, Nat.le_of_ble_eq_true rfl, Nat.le_of_ble_eq_true rfl⟩ hshX_1 rfl rfl (Nat.le_of_ble_eq_true rfl) dX5_dries_32 ?_
      refine r_aload_n (pc := 35) h dX5_dries_35 rfl ?_
      refine r_iload_n (pc := 36) h dX5_dries_36 rfl ?_
      refine r_iconst (pc := 37) (v := 2) h dX5_dries_37 (by decide) ?_
      refine p_b hf (fun q17 e18 hf => ?_)
      refine r_cVi (pc := 38) (k := 1) (st := [.inl q15, .inl 3, .inl l1, .inr 1]) h [.inl l1, .inl 2] cv_X5_fact wm_X5_55 (c_X5_fact e18) ⟨rfl, rfl, Nat.le_of_ble_eq_true rfl, Nat.le_of_ble_eq_true rfl⟩ hshX_1 rfl rfl (Nat.le_of_ble_eq_true rfl) dX5_dries_38 ?_
      refine r_iadd (pc := 41) h dX5_dries_41 ?_
      refine p_b hf (fun q19 e20 hf => ?_)
      refine r_cVv (pc := 42) (k := 1) (st := []) h [.inl l1, .inl 3, .inl (q15 + q17)] cv_X5_place wm_X5_52 (c_X5_place e20) ⟨rfl, rfl, Nat.le_of_ble_eq_true rfl, Nat.le_of_ble_eq_true rfl⟩ hshX_1 rfl rfl (Nat.le_of_ble_eq_true rfl) dX5_dries_42 ?_
      exact w_X5_dries_45 h hr _ _ hf
  · refine r_icmp_ne (pc := 8) (tgt := 45) h dX5_dries_8 (by decide) (fun _ => ?_) (fun q => absurd q hc11)
    exact w_X5_dries_45 h hr _ _ hf
theorem c_X5_dries {u : St} {l1 : Int32} {r : Int32 × St} (hf : f_X5_dries u l1 = some r) : CtI shX yX5_dries cX5_dries 2 (some .boolean) rm_X5_dries [.inr 1, .inl l1] u r.1 r.2 := ct_Z (by decide +kernel) (Nat.le_of_ble_eq_true rfl) (fun K E h hr => w_X5_dries_0 h hr _ _ hf)
set_option maxRecDepth 100000 in
set_option maxHeartbeats 4000000 in
theorem w_X5_passHours_14 {K : Kx} {E : Ex} (h : Ok shX K E RX5 cX5_passHours 4 rm_X5_passHours) {r : Int32 × St} (hr : RetI shX K E cX5_passHours 4 r.1 r.2) : ∀ (n : Nat) (u : St) (l2 l3 : Int32), f_X5_passHours_14 n u l2 l3 = some r → Vd shX K E 4 14 [some (.inr 1), none, some (.inl l2), some (.inl l3)] [] u := by
  intro n
  induction n with
  | zero => intro u l2 l3 hf; cases hf
  | succ n ih =>
    intro u l2 l3 hf
    refine r_iload_n (pc := 14) h dX5_passHours_14 rfl ?_
    refine r_aload_n (pc := 15) h dX5_passHours_15 rfl ?_
    refine gf_X5_15 (pc := 16) (v := (u 1 1)) h rfl dX5_passHours_16 ?_
    refine p_ite hf (fun hc1 hf => ?_) (fun hc1 hf => ?_)
    · refine r_icmp_ge (pc := 19) (tgt := 39) h dX5_passHours_19 (by decide) (fun _ => ?_) (fun q => absurd hc1 q)
      refine r_iload_n (pc := 39) h dX5_passHours_39 rfl ?_
      have hf := Option.some.inj hf
      subst hf
      exact hr 40 _ dX5_passHours_40
    · refine r_icmp_ge (pc := 19) (tgt := 39) h dX5_passHours_19 (by decide) (fun q => absurd q hc1) (fun _ => ?_)
      refine r_aload_n (pc := 22) h dX5_passHours_22 rfl ?_
      refine r_iload_n (pc := 23) h dX5_passHours_23 rfl ?_
      refine p_b hf (fun q2 e3 hf => ?_)
      refine r_cVi (pc := 24) (k := 1) (st := []) h [.inl l3] cv_X5_dries wm_X5_71 (c_X5_dries e3) ⟨rfl, rfl, Nat.le_of_ble_eq_true rfl, Nat.le_of_ble_eq_true rfl⟩ hshX_1 rfl rfl (Nat.le_of_ble_eq_true rfl) dX5_passHours_24 ?_
      refine p_ite hf (fun hc4 hf => ?_) (fun hc4 hf => ?_)
      · refine r_if_eq (pc := 27) (tgt := 33) h dX5_passHours_27 (by decide) (fun _ => ?_) (fun q => absurd hc4 q)
        refine r_iinc (pc := 33) (v := (l3 + 1)) (L' := [some (.inr 1), none, some (.inl l2), some (.inl (l3 + 1))]) h dX5_passHours_33 rfl rfl (by decide) rfl ?_
        refine r_goto (pc := 36) (tgt := 14) h dX5_passHours_36 (by decide) ?_
        exact ih _ _ _ hf
      · refine r_if_eq (pc := 27) (tgt := 33) h dX5_passHours_27 (by decide) (fun q => absurd q hc4) (fun _ => ?_)
        refine r_iinc (pc := 30) (v := (l2 + 1)) (L' := [some (.inr 1), none, some (.inl (l2 + 1)), some (.inl l3)]) h dX5_passHours_30 rfl rfl (by decide) rfl ?_
        refine r_iinc (pc := 33) (v := (l3 + 1)) (L' := [some (.inr 1), none, some (.inl (l2 + 1)), some (.inl (l3 + 1))]) h dX5_passHours_33 rfl rfl (by decide) rfl ?_
        refine r_goto (pc := 36) (tgt := 14) h dX5_passHours_36 (by decide) ?_
        exact ih _ _ _ hf
set_option maxRecDepth 100000 in
set_option maxHeartbeats 4000000 in
theorem w_X5_passHours_0 {K : Kx} {E : Ex} (h : Ok shX K E RX5 cX5_passHours 4 rm_X5_passHours) {r : Int32 × St} (hr : RetI shX K E cX5_passHours 4 r.1 r.2) (u : St) (l1 : Int32) (hf : f_X5_passHours u l1 = some r) : Vd shX K E 4 0 [some (.inr 1), some (.inl l1), none, none] [] u := by
  refine r_aload_n (pc := 0) h dX5_passHours_0 rfl ?_
  refine r_dup (pc := 1) h dX5_passHours_1 ?_
  refine gf_X5_68 (pc := 2) (v := (u 1 2)) h rfl dX5_passHours_2 ?_
  refine r_iload_n (pc := 5) h dX5_passHours_5 rfl ?_
  refine r_iadd (pc := 6) h dX5_passHours_6 ?_
  refine pf_X5_68 (pc := 7) h dX5_passHours_7 ?_
  refine r_iconst (pc := 10) (v := 0) h dX5_passHours_10 (by decide) ?_
  refine r_istore_n (pc := 11) (L' := [some (.inr 1), some (.inl l1), some (.inl 0), none]) h dX5_passHours_11 (by decide) rfl ?_
  refine r_iconst (pc := 12) (v := 0) h dX5_passHours_12 (by decide) ?_
  refine r_istore_n (pc := 13) (L' := [some (.inr 1), some (.inl l1), some (.inl 0), some (.inl 0)]) h dX5_passHours_13 (by decide) rfl ?_
  refine r_le [some (.inr 1), none, some (.inl 0), some (.inl 0)] ⟨rfl, ⟨rfl, ⟨rfl, trivial⟩⟩⟩ ?_
  exact w_X5_passHours_14 h hr FU _ _ _ hf
theorem c_X5_passHours {u : St} {l1 : Int32} {r : Int32 × St} (hf : f_X5_passHours u l1 = some r) : CtI shX yX5_passHours cX5_passHours 4 (some .int) rm_X5_passHours [.inr 1, .inl l1] u r.1 r.2 := ct_I (by decide +kernel) (Nat.le_of_ble_eq_true rfl) (fun K E h hr => w_X5_passHours_0 h hr _ _ hf)
set_option maxRecDepth 100000 in
set_option maxHeartbeats 4000000 in
theorem w_X6_hours_0 {K : Kx} {E : Ex} (h : Ok shX K E RX6 cX6_hours 2 rm_X6_hours) {r : Int32 × St} (hr : RetI shX K E cX6_hours 2 r.1 r.2) (u : St) (l1 : Int32) (hf : f_X6_hours u l1 = some r) : Vd shX K E 2 0 [some (.inr 0), some (.inl l1)] [] u := by
  refine r_iload_n (pc := 0) h dX6_hours_0 rfl ?_
  refine r_iconst (pc := 1) (v := 1) h dX6_hours_1 (by decide) ?_
  refine r_bipush (pc := 2) (v := 100) h dX6_hours_2 (by decide) ?_
  refine p_b hf (fun q1 e2 hf => ?_)
  refine r_cSi (pc := 4) (st := []) h [.inl l1, .inl 1, .inl 100] cs_X6_isWithin wm_X6_88 (c_X6_isWithin e2) ⟨rfl, rfl, Nat.le_of_ble_eq_true rfl, Nat.le_of_ble_eq_true rfl⟩ (Nat.le_of_ble_eq_true rfl) dX6_hours_4 ?_
  refine p_ite hf (fun hc3 hf => ?_) (fun hc3 hf => ?_)
  · refine r_if_ne (pc := 7) (tgt := 16) h dX6_hours_7 (by decide) (fun q => absurd hc3 q) (fun _ => ?_)
    refine r_aload_n (pc := 10) h dX6_hours_10 rfl ?_
    refine r_iconst (pc := 11) (v := 1) h dX6_hours_11 (by decide) ?_
    refine p_b hf (fun q9 e10 hf => ?_)
    refine r_cVi (pc := 12) (k := 0) (st := []) h [.inl 1] cv_X6_finding wm_X6_72 (c_X6_finding e10) ⟨rfl, rfl, Nat.le_of_ble_eq_true rfl, Nat.le_of_ble_eq_true rfl⟩ hshX_0 rfl rfl (Nat.le_of_ble_eq_true rfl) dX6_hours_12 ?_
    have hf := Option.some.inj hf
    subst hf
    exact hr 15 _ dX6_hours_15
  · refine r_if_ne (pc := 7) (tgt := 16) h dX6_hours_7 (by decide) (fun _ => ?_) (fun q => absurd q hc3)
    refine r_aload_n (pc := 16) h dX6_hours_16 rfl ?_
    refine gf_X6_10 (pc := 17) h dX6_hours_17 ?_
    refine gf_X6_189 (pc := 20) (v := (u 1 2)) h rfl dX6_hours_20 ?_
    refine r_iload_n (pc := 23) h dX6_hours_23 rfl ?_
    refine r_iadd (pc := 24) h dX6_hours_24 ?_
    refine r_ldc (pc := 25) h dX6_hours_25 wc_X6_192 ?_
    refine p_ite hf (fun hc4 hf => ?_) (fun hc4 hf => ?_)
    · refine r_icmp_le (pc := 27) (tgt := 36) h dX6_hours_27 (by decide) (fun _ => ?_) (fun q => absurd hc4 q)
      refine r_aload_n (pc := 36) h dX6_hours_36 rfl ?_
      refine gf_X6_10 (pc := 37) h dX6_hours_37 ?_
      refine r_iload_n (pc := 40) h dX6_hours_40 rfl ?_
      refine p_b hf (fun q5 e6 hf => ?_)
      refine r_cVi (pc := 41) (k := 1) (st := []) h [.inl l1] cv_X5_passHours wm_X6_193 (c_X5_passHours e6) ⟨rfl, rfl, Nat.le_of_ble_eq_true rfl, Nat.le_of_ble_eq_true rfl⟩ hshX_1 rfl rfl (Nat.le_of_ble_eq_true rfl) dX6_hours_41 ?_
      have hf := Option.some.inj hf
      subst hf
      exact hr 44 _ dX6_hours_44
    · refine r_icmp_le (pc := 27) (tgt := 36) h dX6_hours_27 (by decide) (fun q => absurd q hc4) (fun _ => ?_)
      refine r_aload_n (pc := 30) h dX6_hours_30 rfl ?_
      refine r_iconst (pc := 31) (v := 4) h dX6_hours_31 (by decide) ?_
      refine p_b hf (fun q7 e8 hf => ?_)
      refine r_cVi (pc := 32) (k := 0) (st := []) h [.inl 4] cv_X6_finding wm_X6_72 (c_X6_finding e8) ⟨rfl, rfl, Nat.le_of_ble_eq_true rfl, Nat.le_of_ble_eq_true rfl⟩ hshX_0 rfl rfl (Nat.le_of_ble_eq_true rfl) dX6_hours_32 ?_
      have hf := Option.some.inj hf
      subst hf
      exact hr 35 _ dX6_hours_35
theorem c_X6_hours {u : St} {l1 : Int32} {r : Int32 × St} (hf : f_X6_hours u l1 = some r) : CtI shX yX6_hours cX6_hours 2 (some .int) rm_X6_hours [.inr 0, .inl l1] u r.1 r.2 := ct_I (by decide +kernel) (Nat.le_of_ble_eq_true rfl) (fun K E h hr => w_X6_hours_0 h hr _ _ hf)
set_option maxRecDepth 100000 in
set_option maxHeartbeats 4000000 in
theorem w_X5_sizesAway_0 {K : Kx} {E : Ex} (h : Ok shX K E RX5 cX5_sizesAway 5 rm_X5_sizesAway) {r : Int32} {u : St} (hr : RetI shX K E cX5_sizesAway 5 r u) (l1 l2 : Int32) (hf : f_X5_sizesAway u l1 l2 = some r) : Vd shX K E 5 0 [some (.inr 1), some (.inl l1), some (.inl l2), none, none] [] u := by
  refine r_aload_n (pc := 0) h dX5_sizesAway_0 rfl ?_
  refine r_iload_n (pc := 1) h dX5_sizesAway_1 rfl ?_
  refine r_bipush (pc := 2) (v := 6) h dX5_sizesAway_2 (by decide) ?_
  refine p_b hf (fun q1 e2 hf => ?_)
  refine r_cVi (pc := 4) (k := 1) (st := []) h [.inl l1, .inl 6] cv_X5_fact wm_X5_55 (c_X5_fact e2) ⟨rfl, rfl, Nat.le_of_ble_eq_true rfl, Nat.le_of_ble_eq_true rfl⟩ hshX_1 rfl rfl (Nat.le_of_ble_eq_true rfl) dX5_sizesAway_4 ?_
  refine r_istore_n (pc := 7) (L' := [some (.inr 1), some (.inl l1), some (.inl l2), some (.inl q1), none]) h dX5_sizesAway_7 (by decide) rfl ?_
  refine r_iload_n (pc := 8) h dX5_sizesAway_8 rfl ?_
  refine r_aload_n (pc := 9) h dX5_sizesAway_9 rfl ?_
  refine r_iload_n (pc := 10) h dX5_sizesAway_10 rfl ?_
  refine r_bipush (pc := 11) (v := 7) h dX5_sizesAway_11 (by decide) ?_
  refine p_b hf (fun q3 e4 hf => ?_)
  refine r_cVi (pc := 13) (k := 1) (st := [.inl q1]) h [.inl l1, .inl 7] cv_X5_fact wm_X5_55 (c_X5_fact e4) ⟨rfl, rfl, Nat.le_of_ble_eq_true rfl, Nat.le_of_ble_eq_true rfl⟩ hshX_1 rfl rfl (Nat.le_of_ble_eq_true rfl) dX5_sizesAway_13 ?_
  refine r_iadd (pc := 16) h dX5_sizesAway_16 ?_
  refine r_istore (pc := 17) (L' := [some (.inr 1), some (.inl l1), some (.inl l2), some (.inl q1), some (.inl (q1 + q3))]) h dX5_sizesAway_17 (by decide) rfl ?_
  refine r_iconst (pc := 19) (v := 0) h dX5_sizesAway_19 (by decide) ?_
  refine r_iload_n (pc := 20) h dX5_sizesAway_20 rfl ?_
  refine r_iload_n (pc := 21) h dX5_sizesAway_21 rfl ?_
  refine r_isub (pc := 22) h dX5_sizesAway_22 ?_
  refine r_iload_n (pc := 23) h dX5_sizesAway_23 rfl ?_
  refine r_iload (pc := 24) h dX5_sizesAway_24 rfl ?_
  refine r_isub (pc := 26) h dX5_sizesAway_26 ?_
  refine r_mmax (pc := 27) (st := [.inl 0]) h wm_X5_63 ⟨Nat.le_of_ble_eq_true rfl, Nat.le_of_ble_eq_true rfl⟩ dX5_sizesAway_27 ?_
  refine r_mmax (pc := 30) (st := []) h wm_X5_63 ⟨Nat.le_of_ble_eq_true rfl, Nat.le_of_ble_eq_true rfl⟩ dX5_sizesAway_30 ?_
  have hf := Option.some.inj hf
  subst hf
  exact hr 33 _ dX5_sizesAway_33
theorem c_X5_sizesAway {u : St} {l1 l2 : Int32} {r : Int32} (hf : f_X5_sizesAway u l1 l2 = some r) : CtI shX yX5_sizesAway cX5_sizesAway 5 (some .int) rm_X5_sizesAway [.inr 1, .inl l1, .inl l2] u r u := ct_I (by decide +kernel) (Nat.le_of_ble_eq_true rfl) (fun K E h hr => w_X5_sizesAway_0 h hr _ _ hf)
set_option maxRecDepth 100000 in
set_option maxHeartbeats 4000000 in
theorem w_X5_areAlike_0 {K : Kx} {E : Ex} (h : Ok shX K E RX5 cX5_areAlike 3 rm_X5_areAlike) {r : Int32} {u : St} (hr : RetZ shX K E cX5_areAlike 3 r u) (l1 l2 : Int32) (hf : f_X5_areAlike u l1 l2 = some r) : Vd shX K E 3 0 [some (.inr 1), some (.inl l1), some (.inl l2)] [] u := by
  refine r_aload_n (pc := 0) h dX5_areAlike_0 rfl ?_
  refine r_iload_n (pc := 1) h dX5_areAlike_1 rfl ?_
  refine r_iload_n (pc := 2) h dX5_areAlike_2 rfl ?_
  refine p_b hf (fun q1 e2 hf => ?_)
  refine r_cVi (pc := 3) (k := 1) (st := []) h [.inl l1, .inl l2] cv_X5_haveOnePlace wm_X5_59 (c_X5_haveOnePlace e2) ⟨rfl, rfl, Nat.le_of_ble_eq_true rfl, Nat.le_of_ble_eq_true rfl⟩ hshX_1 rfl rfl (Nat.le_of_ble_eq_true rfl) dX5_areAlike_3 ?_
  refine p_ite hf (fun hc3 hf => ?_) (fun hc3 hf => ?_)
  · refine r_if_eq (pc := 6) (tgt := 28) h dX5_areAlike_6 (by decide) (fun _ => ?_) (fun q => absurd hc3 q)
    refine r_iconst (pc := 28) (v := 0) h dX5_areAlike_28 (by decide) ?_
    have hf := Option.some.inj hf
    subst hf
    exact hr 29 _ dX5_areAlike_29 z_0
  · refine r_if_eq (pc := 6) (tgt := 28) h dX5_areAlike_6 (by decide) (fun q => absurd q hc3) (fun _ => ?_)
    refine r_aload_n (pc := 9) h dX5_areAlike_9 rfl ?_
    refine r_iload_n (pc := 10) h dX5_areAlike_10 rfl ?_
    refine r_iconst (pc := 11) (v := 5) h dX5_areAlike_11 (by decide) ?_
    refine p_b hf (fun q4 e5 hf => ?_)
    refine r_cVi (pc := 12) (k := 1) (st := []) h [.inl l1, .inl 5] cv_X5_fact wm_X5_55 (c_X5_fact e5) ⟨rfl, rfl, Nat.le_of_ble_eq_true rfl, Nat.le_of_ble_eq_true rfl⟩ hshX_1 rfl rfl (Nat.le_of_ble_eq_true rfl) dX5_areAlike_12 ?_
    refine r_aload_n (pc := 15) h dX5_areAlike_15 rfl ?_
    refine r_iload_n (pc := 16) h dX5_areAlike_16 rfl ?_
    refine r_iconst (pc := 17) (v := 5) h dX5_areAlike_17 (by decide) ?_
    refine p_b hf (fun q6 e7 hf => ?_)
    refine r_cVi (pc := 18) (k := 1) (st := [.inl q4]) h [.inl l2, .inl 5] cv_X5_fact wm_X5_55 (c_X5_fact e7) ⟨rfl, rfl, Nat.le_of_ble_eq_true rfl, Nat.le_of_ble_eq_true rfl⟩ hshX_1 rfl rfl (Nat.le_of_ble_eq_true rfl) dX5_areAlike_18 ?_
    refine p_ite hf (fun hc8 hf => ?_) (fun hc8 hf => ?_)
    · refine r_icmp_ne (pc := 21) (tgt := 28) h dX5_areAlike_21 (by decide) (fun q => absurd hc8 q) (fun _ => ?_)
      refine r_iconst (pc := 24) (v := 1) h dX5_areAlike_24 (by decide) ?_
      refine r_goto (pc := 25) (tgt := 29) h dX5_areAlike_25 (by decide) ?_
      have hf := Option.some.inj hf
      subst hf
      exact hr 29 _ dX5_areAlike_29 z_1
    · refine r_icmp_ne (pc := 21) (tgt := 28) h dX5_areAlike_21 (by decide) (fun _ => ?_) (fun q => absurd q hc8)
      refine r_iconst (pc := 28) (v := 0) h dX5_areAlike_28 (by decide) ?_
      have hf := Option.some.inj hf
      subst hf
      exact hr 29 _ dX5_areAlike_29 z_0
theorem c_X5_areAlike {u : St} {l1 l2 : Int32} {r : Int32} (hf : f_X5_areAlike u l1 l2 = some r) : CtI shX yX5_areAlike cX5_areAlike 3 (some .boolean) rm_X5_areAlike [.inr 1, .inl l1, .inl l2] u r u := ct_Z (by decide +kernel) (Nat.le_of_ble_eq_true rfl) (fun K E h hr => w_X5_areAlike_0 h hr _ _ hf)
set_option maxRecDepth 100000 in
set_option maxHeartbeats 4000000 in
theorem w_X6_countAheadForSwap_39 {K : Kx} {E : Ex} (h : Ok shX K E RX6 cX6_countAheadForSwap 11 rm_X6_countAheadForSwap) {r : Int32} {u : St} (hr : RetI shX K E cX6_countAheadForSwap 11 r u) : ∀ (n : Nat) (l1 l2 l3 l4 l5 l6 l7 l8 : Int32), f_X6_countAheadForSwap_39 u n l1 l2 l3 l4 l5 l6 l7 l8 = some r → Vd shX K E 11 39 [some (.inr 0), some (.inl l1), some (.inl l2), some (.inl l3), some (.inl l4), some (.inl l5), some (.inl l6), some (.inl l7), some (.inl l8), none, none] [] u := by
  intro n
  induction n with
  | zero => intro l1 l2 l3 l4 l5 l6 l7 l8 hf; cases hf
  | succ n ih =>
    intro l1 l2 l3 l4 l5 l6 l7 l8 hf
    refine r_iload (pc := 39) h dX6_countAheadForSwap_39 rfl ?_
    refine r_iload (pc := 41) h dX6_countAheadForSwap_41 rfl ?_
    refine p_ite hf (fun hc1 hf => ?_) (fun hc1 hf => ?_)
    · refine r_icmp_ge (pc := 43) (tgt := 113) h dX6_countAheadForSwap_43 (by decide) (fun _ => ?_) (fun q => absurd hc1 q)
      refine r_iload (pc := 113) h dX6_countAheadForSwap_113 rfl ?_
      have hf := Option.some.inj hf
      subst hf
      exact hr 115 _ dX6_countAheadForSwap_115
    · refine r_icmp_ge (pc := 43) (tgt := 113) h dX6_countAheadForSwap_43 (by decide) (fun q => absurd q hc1) (fun _ => ?_)
      refine r_aload_n (pc := 46) h dX6_countAheadForSwap_46 rfl ?_
      refine gf_X6_19 (pc := 47) h dX6_countAheadForSwap_47 ?_
      refine r_iload_n (pc := 50) h dX6_countAheadForSwap_50 rfl ?_
      refine r_iload (pc := 51) h dX6_countAheadForSwap_51 rfl ?_
      refine p_b hf (fun q2 e3 hf => ?_)
      refine r_cVi (pc := 53) (k := 3) (st := []) h [.inl l1, .inl l8] cv_X2_at wm_X6_108 (c_X2_at e3) ⟨rfl, rfl, Nat.le_of_ble_eq_true rfl, Nat.le_of_ble_eq_true rfl⟩ hshX_3 rfl rfl (Nat.le_of_ble_eq_true rfl) dX6_countAheadForSwap_53 ?_
      refine r_istore (pc := 56) (L' := [some (.inr 0), some (.inl l1), some (.inl l2), some (.inl l3), some (.inl l4), some (.inl l5), some (.inl l6), some (.inl l7), some (.inl l8), some (.inl q2), none]) h dX6_countAheadForSwap_56 (by decide) rfl ?_
      refine r_aload_n (pc := 58) h dX6_countAheadForSwap_58 rfl ?_
      refine gf_X6_10 (pc := 59) h dX6_countAheadForSwap_59 ?_
      refine r_iload (pc := 62) h dX6_countAheadForSwap_62 rfl ?_
      refine r_iload_n (pc := 64) h dX6_countAheadForSwap_64 rfl ?_
      refine p_b hf (fun q4 e5 hf => ?_)
      refine r_cVi (pc := 65) (k := 1) (st := []) h [.inl q2, .inl l3] cv_X5_sizesAway wm_X6_256 (c_X5_sizesAway e5) ⟨rfl, rfl, Nat.le_of_ble_eq_true rfl, Nat.le_of_ble_eq_true rfl⟩ hshX_1 rfl rfl (Nat.le_of_ble_eq_true rfl) dX6_countAheadForSwap_65 ?_
      refine r_istore (pc := 68) (L' := [some (.inr 0), some (.inl l1), some (.inl l2), some (.inl l3), some (.inl l4), some (.inl l5), some (.inl l6), some (.inl l7), some (.inl l8), some (.inl q2), some (.inl q4)]) h dX6_countAheadForSwap_68 (by decide) rfl ?_
      refine r_aload_n (pc := 70) h dX6_countAheadForSwap_70 rfl ?_
      refine gf_X6_10 (pc := 71) h dX6_countAheadForSwap_71 ?_
      refine r_iload (pc := 74) h dX6_countAheadForSwap_74 rfl ?_
      refine r_iload (pc := 76) h dX6_countAheadForSwap_76 rfl ?_
      refine p_b hf (fun q6 e7 hf => ?_)
      refine r_cVi (pc := 78) (k := 1) (st := []) h [.inl l4, .inl q2] cv_X5_areAlike wm_X6_265 (c_X5_areAlike e7) ⟨rfl, rfl, Nat.le_of_ble_eq_true rfl, Nat.le_of_ble_eq_true rfl⟩ hshX_1 rfl rfl (Nat.le_of_ble_eq_true rfl) dX6_countAheadForSwap_78 ?_
      refine p_ite hf (fun hc8 hf => ?_) (fun hc8 hf => ?_)
      · refine r_if_eq (pc := 81) (tgt := 107) h dX6_countAheadForSwap_81 (by decide) (fun _ => ?_) (fun q => absurd hc8 q)
        refine r_iinc (pc := 107) (v := (l8 + 1)) (L' := [some (.inr 0), some (.inl l1), some (.inl l2), some (.inl l3), some (.inl l4), some (.inl l5), some (.inl l6), some (.inl l7), some (.inl (l8 + 1)), some (.inl q2), some (.inl q4)]) h dX6_countAheadForSwap_107 rfl rfl (by decide) rfl ?_
        refine r_goto (pc := 110) (tgt := 39) h dX6_countAheadForSwap_110 (by decide) ?_
        refine r_le [some (.inr 0), some (.inl l1), some (.inl l2), some (.inl l3), some (.inl l4), some (.inl l5), some (.inl l6), some (.inl l7), some (.inl (l8 + 1)), none, none] ⟨rfl, ⟨rfl, ⟨rfl, ⟨rfl, ⟨rfl, ⟨rfl, ⟨rfl, ⟨rfl, ⟨rfl, trivial⟩⟩⟩⟩⟩⟩⟩⟩⟩ ?_
        exact ih _ _ _ _ _ _ _ _ hf
      · refine r_if_eq (pc := 81) (tgt := 107) h dX6_countAheadForSwap_81 (by decide) (fun q => absurd q hc8) (fun _ => ?_)
        refine r_iload (pc := 84) h dX6_countAheadForSwap_84 rfl ?_
        refine r_iload (pc := 86) h dX6_countAheadForSwap_86 rfl ?_
        refine p_ite hf (fun hc9 hf => ?_) (fun hc9 hf => ?_)
        · refine r_icmp_gt (pc := 88) (tgt := 104) h dX6_countAheadForSwap_88 (by decide) (fun _ => ?_) (fun q => absurd hc9 q)
          refine r_iinc (pc := 104) (v := (l6 + 1)) (L' := [some (.inr 0), some (.inl l1), some (.inl l2), some (.inl l3), some (.inl l4), some (.inl l5), some (.inl (l6 + 1)), some (.inl l7), some (.inl l8), some (.inl q2), some (.inl q4)]) h dX6_countAheadForSwap_104 rfl rfl (by decide) rfl ?_
          refine r_iinc (pc := 107) (v := (l8 + 1)) (L' := [some (.inr 0), some (.inl l1), some (.inl l2), some (.inl l3), some (.inl l4), some (.inl l5), some (.inl (l6 + 1)), some (.inl l7), some (.inl (l8 + 1)), some (.inl q2), some (.inl q4)]) h dX6_countAheadForSwap_107 rfl rfl (by decide) rfl ?_
          refine r_goto (pc := 110) (tgt := 39) h dX6_countAheadForSwap_110 (by decide) ?_
          refine r_le [some (.inr 0), some (.inl l1), some (.inl l2), some (.inl l3), some (.inl l4), some (.inl l5), some (.inl (l6 + 1)), some (.inl l7), some (.inl (l8 + 1)), none, none] ⟨rfl, ⟨rfl, ⟨rfl, ⟨rfl, ⟨rfl, ⟨rfl, ⟨rfl, ⟨rfl, ⟨rfl, trivial⟩⟩⟩⟩⟩⟩⟩⟩⟩ ?_
          exact ih _ _ _ _ _ _ _ _ hf
        · refine r_icmp_gt (pc := 88) (tgt := 104) h dX6_countAheadForSwap_88 (by decide) (fun q => absurd q hc9) (fun _ => ?_)
          refine r_iload (pc := 91) h dX6_countAheadForSwap_91 rfl ?_
          refine r_iload (pc := 93) h dX6_countAheadForSwap_93 rfl ?_
          refine p_ite hf (fun hc10 hf => ?_) (fun hc10 hf => ?_)
          · refine r_icmp_ne (pc := 95) (tgt := 107) h dX6_countAheadForSwap_95 (by decide) (fun q => absurd hc10 q) (fun _ => ?_)
            refine r_iload (pc := 98) h dX6_countAheadForSwap_98 rfl ?_
            refine r_iload_n (pc := 100) h dX6_countAheadForSwap_100 rfl ?_
            refine p_ite hf (fun hc11 hf => ?_) (fun hc11 hf => ?_)
            · refine r_icmp_ge (pc := 101) (tgt := 107) h dX6_countAheadForSwap_101 (by decide) (fun _ => ?_) (fun q => absurd hc11 q)
              refine r_iinc (pc := 107) (v := (l8 + 1)) (L' := [some (.inr 0), some (.inl l1), some (.inl l2), some (.inl l3), some (.inl l4), some (.inl l5), some (.inl l6), some (.inl l7), some (.inl (l8 + 1)), some (.inl q2), some (.inl q4)]) h dX6_countAheadForSwap_107 rfl rfl (by decide) rfl ?_
              refine r_goto (pc := 110) (tgt := 39) h dX6_countAheadForSwap_110 (by decide) ?_
              refine r_le [some (.inr 0), some (.inl l1), some (.inl l2), some (.inl l3), some (.inl l4), some (.inl l5), some (.inl l6), some (.inl l7), some (.inl (l8 + 1)), none, none] ⟨rfl, ⟨rfl, ⟨rfl, ⟨rfl, ⟨rfl, ⟨rfl, ⟨rfl, ⟨rfl, ⟨rfl, trivial⟩⟩⟩⟩⟩⟩⟩⟩⟩ ?_
              exact ih _ _ _ _ _ _ _ _ hf
            · refine r_icmp_ge (pc := 101) (tgt := 107) h dX6_countAheadForSwap_101 (by decide) (fun q => absurd q hc11) (fun _ => ?_)
              refine r_iinc (pc := 104) (v := (l6 + 1)) (L' := [some (.inr 0), some (.inl l1), some (.inl l2), some (.inl l3), some (.inl l4), some (.inl l5), some (.inl (l6 + 1)), some (.inl l7), some (.inl l8), some (.inl q2), some (.inl q4)]) h dX6_countAheadForSwap_104 rfl rfl (by decide) rfl ?_
              refine r_iinc (pc := 107) (v := (l8 + 1)) (L' := [some (.inr 0), some (.inl l1), some (.inl l2), some (.inl l3), some (.inl l4), some (.inl l5), some (.inl (l6 + 1)), some (.inl l7), some (.inl (l8 + 1)), some (.inl q2), some (.inl q4)]) h dX6_countAheadForSwap_107 rfl rfl (by decide) rfl ?_
              refine r_goto (pc := 110) (tgt := 39) h dX6_countAheadForSwap_110 (by decide) ?_
              refine r_le [some (.inr 0), some (.inl l1), some (.inl l2), some (.inl l3), some (.inl l4), some (.inl l5), some (.inl (l6 + 1)), some (.inl l7), some (.inl (l8 + 1)), none, none] ⟨rfl, ⟨rfl, ⟨rfl, ⟨rfl, ⟨rfl, ⟨rfl, ⟨rfl, ⟨rfl, ⟨rfl, trivial⟩⟩⟩⟩⟩⟩⟩⟩⟩ ?_
              exact ih _ _ _ _ _ _ _ _ hf
          · refine r_icmp_ne (pc := 95) (tgt := 107) h dX6_countAheadForSwap_95 (by decide) (fun _ => ?_) (fun q => absurd q hc10)
            refine r_iinc (pc := 107) (v := (l8 + 1)) (L' := [some (.inr 0), some (.inl l1), some (.inl l2), some (.inl l3), some (.inl l4), some (.inl l5), some (.inl l6), some (.inl l7), some (.inl (l8 + 1)), some (.inl q2), some (.inl q4)]) h dX6_countAheadForSwap_107 rfl rfl (by decide) rfl ?_
            refine r_goto (pc := 110) (tgt := 39) h dX6_countAheadForSwap_110 (by decide) ?_
            refine r_le [some (.inr 0), some (.inl l1), some (.inl l2), some (.inl l3), some (.inl l4), some (.inl l5), some (.inl l6), some (.inl l7), some (.inl (l8 + 1)), none, none] ⟨rfl, ⟨rfl, ⟨rfl, ⟨rfl, ⟨rfl, ⟨rfl, ⟨rfl, ⟨rfl, ⟨rfl, trivial⟩⟩⟩⟩⟩⟩⟩⟩⟩ ?_
            exact ih _ _ _ _ _ _ _ _ hf
set_option maxRecDepth 100000 in
set_option maxHeartbeats 4000000 in
theorem w_X6_countAheadForSwap_0 {K : Kx} {E : Ex} (h : Ok shX K E RX6 cX6_countAheadForSwap 11 rm_X6_countAheadForSwap) {r : Int32} {u : St} (hr : RetI shX K E cX6_countAheadForSwap 11 r u) (l1 l2 l3 : Int32) (hf : f_X6_countAheadForSwap u l1 l2 l3 = some r) : Vd shX K E 11 0 [some (.inr 0), some (.inl l1), some (.inl l2), some (.inl l3), none, none, none, none, none, none, none] [] u := by
  refine r_aload_n (pc := 0) h dX6_countAheadForSwap_0 rfl ?_
  refine gf_X6_19 (pc := 1) h dX6_countAheadForSwap_1 ?_
  refine r_iload_n (pc := 4) h dX6_countAheadForSwap_4 rfl ?_
  refine r_iload_n (pc := 5) h dX6_countAheadForSwap_5 rfl ?_
  refine p_b hf (fun q12 e13 hf => ?_)
  refine r_cVi (pc := 6) (k := 3) (st := []) h [.inl l1, .inl l2] cv_X2_at wm_X6_108 (c_X2_at e13) ⟨rfl, rfl, Nat.le_of_ble_eq_true rfl, Nat.le_of_ble_eq_true rfl⟩ hshX_3 rfl rfl (Nat.le_of_ble_eq_true rfl) dX6_countAheadForSwap_6 ?_
  refine r_istore (pc := 9) (L' := [some (.inr 0), some (.inl l1), some (.inl l2), some (.inl l3), some (.inl q12), none, none, none, none, none, none]) h dX6_countAheadForSwap_9 (by decide) rfl ?_
  refine r_aload_n (pc := 11) h dX6_countAheadForSwap_11 rfl ?_
  refine gf_X6_10 (pc := 12) h dX6_countAheadForSwap_12 ?_
  refine r_iload (pc := 15) h dX6_countAheadForSwap_15 rfl ?_
  refine r_iload_n (pc := 17) h dX6_countAheadForSwap_17 rfl ?_
  refine p_b hf (fun q14 e15 hf => ?_)
  refine r_cVi (pc := 18) (k := 1) (st := []) h [.inl q12, .inl l3] cv_X5_sizesAway wm_X6_256 (c_X5_sizesAway e15) ⟨rfl, rfl, Nat.le_of_ble_eq_true rfl, Nat.le_of_ble_eq_true rfl⟩ hshX_1 rfl rfl (Nat.le_of_ble_eq_true rfl) dX6_countAheadForSwap_18 ?_
  refine r_istore (pc := 21) (L' := [some (.inr 0), some (.inl l1), some (.inl l2), some (.inl l3), some (.inl q12), some (.inl q14), none, none, none, none, none]) h dX6_countAheadForSwap_21 (by decide) rfl ?_
  refine r_iconst (pc := 23) (v := 0) h dX6_countAheadForSwap_23 (by decide) ?_
  refine r_istore (pc := 24) (L' := [some (.inr 0), some (.inl l1), some (.inl l2), some (.inl l3), some (.inl q12), some (.inl q14), some (.inl 0), none, none, none, none]) h dX6_countAheadForSwap_24 (by decide) rfl ?_
  refine r_aload_n (pc := 26) h dX6_countAheadForSwap_26 rfl ?_
  refine gf_X6_19 (pc := 27) h dX6_countAheadForSwap_27 ?_
  refine r_iload_n (pc := 30) h dX6_countAheadForSwap_30 rfl ?_
  refine p_b hf (fun q16 e17 hf => ?_)
  refine r_cVi (pc := 31) (k := 3) (st := []) h [.inl l1] cv_X2_sizeOf wm_X6_99 (c_X2_sizeOf e17) ⟨rfl, rfl, Nat.le_of_ble_eq_true rfl, Nat.le_of_ble_eq_true rfl⟩ hshX_3 rfl rfl (Nat.le_of_ble_eq_true rfl) dX6_countAheadForSwap_31 ?_
  refine r_istore (pc := 34) (L' := [some (.inr 0), some (.inl l1), some (.inl l2), some (.inl l3), some (.inl q12), some (.inl q14), some (.inl 0), some (.inl q16), none, none, none]) h dX6_countAheadForSwap_34 (by decide) rfl ?_
  refine r_iconst (pc := 36) (v := 0) h dX6_countAheadForSwap_36 (by decide) ?_
  refine r_istore (pc := 37) (L' := [some (.inr 0), some (.inl l1), some (.inl l2), some (.inl l3), some (.inl q12), some (.inl q14), some (.inl 0), some (.inl q16), some (.inl 0), none, none]) h dX6_countAheadForSwap_37 (by decide) rfl ?_
  exact w_X6_countAheadForSwap_39 h hr FU _ _ _ _ _ _ _ _ hf
theorem c_X6_countAheadForSwap {u : St} {l1 l2 l3 : Int32} {r : Int32} (hf : f_X6_countAheadForSwap u l1 l2 l3 = some r) : CtI shX yX6_countAheadForSwap cX6_countAheadForSwap 11 (some .int) rm_X6_countAheadForSwap [.inr 0, .inl l1, .inl l2, .inl l3] u r u := ct_I (by decide +kernel) (Nat.le_of_ble_eq_true rfl) (fun K E h hr => w_X6_countAheadForSwap_0 h hr _ _ _ hf)
set_option maxRecDepth 100000 in
set_option maxHeartbeats 4000000 in
theorem w_X2_isInNone_0 {K : Kx} {E : Ex} (h : Ok shX K E RX2 cX2_isInNone 2 rm_X2_isInNone) {r : Int32} {u : St} (hr : RetZ shX K E cX2_isInNone 2 r u) (l1 : Int32) (hf : f_X2_isInNone u l1 = some r) : Vd shX K E 2 0 [some (.inr 3), some (.inl l1)] [] u := by
  refine r_iload_n (pc := 0) h dX2_isInNone_0 rfl ?_
  refine r_iconst (pc := 1) (v := 0) h dX2_isInNone_1 (by decide) ?_
  refine r_bipush (pc := 2) (v := 31) h dX2_isInNone_2 (by decide) ?_
  refine p_b hf (fun q1 e2 hf => ?_)
  refine r_cNi (pc := 4) (st := []) h [.inl l1, .inl 0, .inl 31] cs_X6_isWithin nm_X2_33 (c_X6_isWithin e2) ⟨rfl, rfl, Nat.le_of_ble_eq_true rfl, Nat.le_of_ble_eq_true rfl⟩ (Nat.le_of_ble_eq_true rfl) dX2_isInNone_4 ?_
  refine p_ite hf (fun hc3 hf => ?_) (fun hc3 hf => ?_)
  · refine r_if_eq (pc := 7) (tgt := 23) h dX2_isInNone_7 (by decide) (fun _ => ?_) (fun q => absurd hc3 q)
    refine r_iconst (pc := 23) (v := 0) h dX2_isInNone_23 (by decide) ?_
    have hf := Option.some.inj hf
    subst hf
    exact hr 24 _ dX2_isInNone_24 z_0
  · refine r_if_eq (pc := 7) (tgt := 23) h dX2_isInNone_7 (by decide) (fun q => absurd q hc3) (fun _ => ?_)
    refine r_aload_n (pc := 10) h dX2_isInNone_10 rfl ?_
    refine gf_X2_18 (pc := 11) h dX2_isInNone_11 ?_
    refine r_iload_n (pc := 14) h dX2_isInNone_14 rfl ?_
    refine p_g hf (fun hi4 hf => ?_)
    refine r_iald (pc := 15) (k := 6) (v := (u 6 l1.toNatClampNeg)) h hshX_6 hi4 rfl dX2_isInNone_15 ?_
    refine p_ite hf (fun hc5 hf => ?_) (fun hc5 hf => ?_)
    · refine r_if_ne (pc := 16) (tgt := 23) h dX2_isInNone_16 (by decide) (fun q => absurd hc5 q) (fun _ => ?_)
      refine r_iconst (pc := 19) (v := 1) h dX2_isInNone_19 (by decide) ?_
      refine r_goto (pc := 20) (tgt := 24) h dX2_isInNone_20 (by decide) ?_
      have hf := Option.some.inj hf
      subst hf
      exact hr 24 _ dX2_isInNone_24 z_1
    · refine r_if_ne (pc := 16) (tgt := 23) h dX2_isInNone_16 (by decide) (fun _ => ?_) (fun q => absurd q hc5)
      refine r_iconst (pc := 23) (v := 0) h dX2_isInNone_23 (by decide) ?_
      have hf := Option.some.inj hf
      subst hf
      exact hr 24 _ dX2_isInNone_24 z_0
theorem c_X2_isInNone {u : St} {l1 : Int32} {r : Int32} (hf : f_X2_isInNone u l1 = some r) : CtI shX yX2_isInNone cX2_isInNone 2 (some .boolean) rm_X2_isInNone [.inr 3, .inl l1] u r u := ct_Z (by decide +kernel) (Nat.le_of_ble_eq_true rfl) (fun K E h hr => w_X2_isInNone_0 h hr _ hf)
set_option maxRecDepth 100000 in
set_option maxHeartbeats 4000000 in
theorem w_X6_countSpares_5 {K : Kx} {E : Ex} (h : Ok shX K E RX6 cX6_countSpares 5 rm_X6_countSpares) {r : Int32} {u : St} (hr : RetI shX K E cX6_countSpares 5 r u) : ∀ (n : Nat) (l1 l2 l3 l4 : Int32), f_X6_countSpares_5 u n l1 l2 l3 l4 = some r → Vd shX K E 5 5 [some (.inr 0), some (.inl l1), some (.inl l2), some (.inl l3), some (.inl l4)] [] u := by
  intro n
  induction n with
  | zero => intro l1 l2 l3 l4 hf; cases hf
  | succ n ih =>
    intro l1 l2 l3 l4 hf
    refine r_iload (pc := 5) h dX6_countSpares_5 rfl ?_
    refine r_bipush (pc := 7) (v := 32) h dX6_countSpares_7 (by decide) ?_
    refine p_ite hf (fun hc1 hf => ?_) (fun hc1 hf => ?_)
    · refine r_icmp_ge (pc := 9) (tgt := 85) h dX6_countSpares_9 (by decide) (fun _ => ?_) (fun q => absurd hc1 q)
      refine r_iload_n (pc := 85) h dX6_countSpares_85 rfl ?_
      have hf := Option.some.inj hf
      subst hf
      exact hr 86 _ dX6_countSpares_86
    · refine r_icmp_ge (pc := 9) (tgt := 85) h dX6_countSpares_9 (by decide) (fun q => absurd q hc1) (fun _ => ?_)
      refine r_aload_n (pc := 12) h dX6_countSpares_12 rfl ?_
      refine gf_X6_10 (pc := 13) h dX6_countSpares_13 ?_
      refine r_iload (pc := 16) h dX6_countSpares_16 rfl ?_
      refine p_b hf (fun q2 e3 hf => ?_)
      refine r_cVi (pc := 18) (k := 1) (st := []) h [.inl l4] cv_X5_has wm_X6_84 (c_X5_has e3) ⟨rfl, rfl, Nat.le_of_ble_eq_true rfl, Nat.le_of_ble_eq_true rfl⟩ hshX_1 rfl rfl (Nat.le_of_ble_eq_true rfl) dX6_countSpares_18 ?_
      refine p_ite hf (fun hc4 hf => ?_) (fun hc4 hf => ?_)
      · refine r_if_eq (pc := 21) (tgt := 79) h dX6_countSpares_21 (by decide) (fun _ => ?_) (fun q => absurd hc4 q)
        refine r_iinc (pc := 79) (v := (l4 + 1)) (L' := [some (.inr 0), some (.inl l1), some (.inl l2), some (.inl l3), some (.inl (l4 + 1))]) h dX6_countSpares_79 rfl rfl (by decide) rfl ?_
        refine r_goto (pc := 82) (tgt := 5) h dX6_countSpares_82 (by decide) ?_
        exact ih _ _ _ _ hf
      · refine r_if_eq (pc := 21) (tgt := 79) h dX6_countSpares_21 (by decide) (fun q => absurd q hc4) (fun _ => ?_)
        refine r_aload_n (pc := 24) h dX6_countSpares_24 rfl ?_
        refine gf_X6_10 (pc := 25) h dX6_countSpares_25 ?_
        refine r_iload_n (pc := 28) h dX6_countSpares_28 rfl ?_
        refine r_iload (pc := 29) h dX6_countSpares_29 rfl ?_
        refine p_b hf (fun q5 e6 hf => ?_)
        refine r_cVi (pc := 31) (k := 1) (st := []) h [.inl l1, .inl l4] cv_X5_areAlike wm_X6_265 (c_X5_areAlike e6) ⟨rfl, rfl, Nat.le_of_ble_eq_true rfl, Nat.le_of_ble_eq_true rfl⟩ hshX_1 rfl rfl (Nat.le_of_ble_eq_true rfl) dX6_countSpares_31 ?_
        refine p_ite hf (fun hc7 hf => ?_) (fun hc7 hf => ?_)
        · refine r_if_eq (pc := 34) (tgt := 79) h dX6_countSpares_34 (by decide) (fun _ => ?_) (fun q => absurd hc7 q)
          refine r_iinc (pc := 79) (v := (l4 + 1)) (L' := [some (.inr 0), some (.inl l1), some (.inl l2), some (.inl l3), some (.inl (l4 + 1))]) h dX6_countSpares_79 rfl rfl (by decide) rfl ?_
          refine r_goto (pc := 82) (tgt := 5) h dX6_countSpares_82 (by decide) ?_
          exact ih _ _ _ _ hf
        · refine r_if_eq (pc := 34) (tgt := 79) h dX6_countSpares_34 (by decide) (fun q => absurd q hc7) (fun _ => ?_)
          refine r_aload_n (pc := 37) h dX6_countSpares_37 rfl ?_
          refine gf_X6_10 (pc := 38) h dX6_countSpares_38 ?_
          refine r_iload (pc := 41) h dX6_countSpares_41 rfl ?_
          refine r_iload_n (pc := 43) h dX6_countSpares_43 rfl ?_
          refine p_b hf (fun q8 e9 hf => ?_)
          refine r_cVi (pc := 44) (k := 1) (st := []) h [.inl l4, .inl l2] cv_X5_sizesAway wm_X6_256 (c_X5_sizesAway e9) ⟨rfl, rfl, Nat.le_of_ble_eq_true rfl, Nat.le_of_ble_eq_true rfl⟩ hshX_1 rfl rfl (Nat.le_of_ble_eq_true rfl) dX6_countSpares_44 ?_
          refine p_ite hf (fun hc10 hf => ?_) (fun hc10 hf => ?_)
          · refine r_if_ne (pc := 47) (tgt := 79) h dX6_countSpares_47 (by decide) (fun q => absurd hc10 q) (fun _ => ?_)
            refine r_aload_n (pc := 50) h dX6_countSpares_50 rfl ?_
            refine gf_X6_10 (pc := 51) h dX6_countSpares_51 ?_
            refine r_iload (pc := 54) h dX6_countSpares_54 rfl ?_
            refine r_bipush (pc := 56) (v := 8) h dX6_countSpares_56 (by decide) ?_
            refine p_b hf (fun q11 e12 hf => ?_)
            refine r_cVi (pc := 58) (k := 1) (st := []) h [.inl l4, .inl 8] cv_X5_fact wm_X6_91 (c_X5_fact e12) ⟨rfl, rfl, Nat.le_of_ble_eq_true rfl, Nat.le_of_ble_eq_true rfl⟩ hshX_1 rfl rfl (Nat.le_of_ble_eq_true rfl) dX6_countSpares_58 ?_
            refine p_ite hf (fun hc13 hf => ?_) (fun hc13 hf => ?_)
            · refine r_if_ne (pc := 61) (tgt := 79) h dX6_countSpares_61 (by decide) (fun q => absurd hc13 q) (fun _ => ?_)
              refine r_aload_n (pc := 64) h dX6_countSpares_64 rfl ?_
              refine gf_X6_19 (pc := 65) h dX6_countSpares_65 ?_
              refine r_iload (pc := 68) h dX6_countSpares_68 rfl ?_
              refine p_b hf (fun q14 e15 hf => ?_)
              refine r_cVi (pc := 70) (k := 3) (st := []) h [.inl l4] cv_X2_isInNone wm_X6_268 (c_X2_isInNone e15) ⟨rfl, rfl, Nat.le_of_ble_eq_true rfl, Nat.le_of_ble_eq_true rfl⟩ hshX_3 rfl rfl (Nat.le_of_ble_eq_true rfl) dX6_countSpares_70 ?_
              refine p_ite hf (fun hc16 hf => ?_) (fun hc16 hf => ?_)
              · refine r_if_eq (pc := 73) (tgt := 79) h dX6_countSpares_73 (by decide) (fun _ => ?_) (fun q => absurd hc16 q)
                refine r_iinc (pc := 79) (v := (l4 + 1)) (L' := [some (.inr 0), some (.inl l1), some (.inl l2), some (.inl l3), some (.inl (l4 + 1))]) h dX6_countSpares_79 rfl rfl (by decide) rfl ?_
                refine r_goto (pc := 82) (tgt := 5) h dX6_countSpares_82 (by decide) ?_
                exact ih _ _ _ _ hf
              · refine r_if_eq (pc := 73) (tgt := 79) h dX6_countSpares_73 (by decide) (fun q => absurd q hc16) (fun _ => ?_)
                refine r_iinc (pc := 76) (v := (l3 + 1)) (L' := [some (.inr 0), some (.inl l1), some (.inl l2), some (.inl (l3 + 1)), some (.inl l4)]) h dX6_countSpares_76 rfl rfl (by decide) rfl ?_
                refine r_iinc (pc := 79) (v := (l4 + 1)) (L' := [some (.inr 0), some (.inl l1), some (.inl l2), some (.inl (l3 + 1)), some (.inl (l4 + 1))]) h dX6_countSpares_79 rfl rfl (by decide) rfl ?_
                refine r_goto (pc := 82) (tgt := 5) h dX6_countSpares_82 (by decide) ?_
                exact ih _ _ _ _ hf
            · refine r_if_ne (pc := 61) (tgt := 79) h dX6_countSpares_61 (by decide) (fun _ => ?_) (fun q => absurd q hc13)
              refine r_iinc (pc := 79) (v := (l4 + 1)) (L' := [some (.inr 0), some (.inl l1), some (.inl l2), some (.inl l3), some (.inl (l4 + 1))]) h dX6_countSpares_79 rfl rfl (by decide) rfl ?_
              refine r_goto (pc := 82) (tgt := 5) h dX6_countSpares_82 (by decide) ?_
              exact ih _ _ _ _ hf
          · refine r_if_ne (pc := 47) (tgt := 79) h dX6_countSpares_47 (by decide) (fun _ => ?_) (fun q => absurd q hc10)
            refine r_iinc (pc := 79) (v := (l4 + 1)) (L' := [some (.inr 0), some (.inl l1), some (.inl l2), some (.inl l3), some (.inl (l4 + 1))]) h dX6_countSpares_79 rfl rfl (by decide) rfl ?_
            refine r_goto (pc := 82) (tgt := 5) h dX6_countSpares_82 (by decide) ?_
            exact ih _ _ _ _ hf
set_option maxRecDepth 100000 in
set_option maxHeartbeats 4000000 in
theorem w_X6_countSpares_0 {K : Kx} {E : Ex} (h : Ok shX K E RX6 cX6_countSpares 5 rm_X6_countSpares) {r : Int32} {u : St} (hr : RetI shX K E cX6_countSpares 5 r u) (l1 l2 : Int32) (hf : f_X6_countSpares u l1 l2 = some r) : Vd shX K E 5 0 [some (.inr 0), some (.inl l1), some (.inl l2), none, none] [] u := by
  refine r_iconst (pc := 0) (v := 0) h dX6_countSpares_0 (by decide) ?_
  refine r_istore_n (pc := 1) (L' := [some (.inr 0), some (.inl l1), some (.inl l2), some (.inl 0), none]) h dX6_countSpares_1 (by decide) rfl ?_
  refine r_iconst (pc := 2) (v := 0) h dX6_countSpares_2 (by decide) ?_
  refine r_istore (pc := 3) (L' := [some (.inr 0), some (.inl l1), some (.inl l2), some (.inl 0), some (.inl 0)]) h dX6_countSpares_3 (by decide) rfl ?_
  exact w_X6_countSpares_5 h hr FU _ _ _ _ hf
theorem c_X6_countSpares {u : St} {l1 l2 : Int32} {r : Int32} (hf : f_X6_countSpares u l1 l2 = some r) : CtI shX yX6_countSpares cX6_countSpares 5 (some .int) rm_X6_countSpares [.inr 0, .inl l1, .inl l2] u r u := ct_I (by decide +kernel) (Nat.le_of_ble_eq_true rfl) (fun K E h hr => w_X6_countSpares_0 h hr _ _ hf)
