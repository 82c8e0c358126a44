set_option maxRecDepth 100000 in
set_option maxHeartbeats 4000000 in
theorem w_X6_nameIn_0 {K : Kx} {E : Ex} (h : Ok shX K E RX6 cX6_nameIn 1 rm_X6_nameIn) {r : Int32} {u : St} (hr : RetI shX K E cX6_nameIn 1 r u) (l0 : Int32) (hf : f_X6_nameIn u l0 = some r) : Vd shX K E 1 0 [some (.inl l0)] [] u := by
  refine r_iload_n (pc := 0) h dX6_nameIn_0 rfl ?_
  refine r_sipush (pc := 1) (v := 1000) h dX6_nameIn_1 (by decide) ?_
  refine r_idiv (pc := 4) h dX6_nameIn_4 (by decide) ?_
  have hf := Option.some.inj hf
  subst hf
  exact hr 5 _ dX6_nameIn_5
theorem c_X6_nameIn {u : St} {l0 : Int32} {r : Int32} (hf : f_X6_nameIn u l0 = some r) : CtI shX yX6_nameIn cX6_nameIn 1 (some .int) rm_X6_nameIn [.inl l0] u r u := ct_I (by decide +kernel) (Nat.le_of_ble_eq_true rfl) (fun K E h hr => w_X6_nameIn_0 h hr _ hf)
set_option maxRecDepth 100000 in
set_option maxHeartbeats 4000000 in
theorem w_X6_isWithin_0 {K : Kx} {E : Ex} (h : Ok shX K E RX6 cX6_isWithin 3 rm_X6_isWithin) {r : Int32} {u : St} (hr : RetZ shX K E cX6_isWithin 3 r u) (l0 l1 l2 : Int32) (hf : f_X6_isWithin u l0 l1 l2 = some r) : Vd shX K E 3 0 [some (.inl l0), some (.inl l1), some (.inl l2)] [] u := by
  refine r_iload_n (pc := 0) h dX6_isWithin_0 rfl ?_
  refine r_iload_n (pc := 1) h dX6_isWithin_1 rfl ?_
  refine p_ite hf (fun hc1 hf => ?_) (fun hc1 hf => ?_)
  · refine r_icmp_lt (pc := 2) (tgt := 14) h dX6_isWithin_2 (by decide) (fun _ => ?_) (fun q => absurd hc1 q)
    refine r_iconst (pc := 14) (v := 0) h dX6_isWithin_14 (by decide) ?_
    have hf := Option.some.inj hf
    subst hf
    exact hr 15 _ dX6_isWithin_15 z_0
  · refine r_icmp_lt (pc := 2) (tgt := 14) h dX6_isWithin_2 (by decide) (fun q => absurd q hc1) (fun _ => ?_)
    refine r_iload_n (pc := 5) h dX6_isWithin_5 rfl ?_
    refine r_iload_n (pc := 6) h dX6_isWithin_6 rfl ?_
    refine p_ite hf (fun hc2 hf => ?_) (fun hc2 hf => ?_)
    · refine r_icmp_gt (pc := 7) (tgt := 14) h dX6_isWithin_7 (by decide) (fun _ => ?_) (fun q => absurd hc2 q)
      refine r_iconst (pc := 14) (v := 0) h dX6_isWithin_14 (by decide) ?_
      have hf := Option.some.inj hf
      subst hf
      exact hr 15 _ dX6_isWithin_15 z_0
    · refine r_icmp_gt (pc := 7) (tgt := 14) h dX6_isWithin_7 (by decide) (fun q => absurd q hc2) (fun _ => ?_)
      refine r_iconst (pc := 10) (v := 1) h dX6_isWithin_10 (by decide) ?_
      refine r_goto (pc := 11) (tgt := 15) h dX6_isWithin_11 (by decide) ?_
      have hf := Option.some.inj hf
      subst hf
      exact hr 15 _ dX6_isWithin_15 z_1
theorem c_X6_isWithin {u : St} {l0 l1 l2 : Int32} {r : Int32} (hf : f_X6_isWithin u l0 l1 l2 = some r) : CtI shX yX6_isWithin cX6_isWithin 3 (some .boolean) rm_X6_isWithin [.inl l0, .inl l1, .inl l2] u r u := ct_Z (by decide +kernel) (Nat.le_of_ble_eq_true rfl) (fun K E h hr => w_X6_isWithin_0 h hr _ _ _ hf)
set_option maxRecDepth 100000 in
set_option maxHeartbeats 4000000 in
theorem w_X6_placeIn_0 {K : Kx} {E : Ex} (h : Ok shX K E RX6 cX6_placeIn 1 rm_X6_placeIn) {r : Int32} {u : St} (hr : RetI shX K E cX6_placeIn 1 r u) (l0 : Int32) (hf : f_X6_placeIn u l0 = some r) : Vd shX K E 1 0 [some (.inl l0)] [] u := by
  refine r_iload_n (pc := 0) h dX6_placeIn_0 rfl ?_
  refine r_bipush (pc := 1) (v := 100) h dX6_placeIn_1 (by decide) ?_
  refine r_idiv (pc := 3) h dX6_placeIn_3 (by decide) ?_
  refine r_bipush (pc := 4) (v := 10) h dX6_placeIn_4 (by decide) ?_
  refine r_irem (pc := 6) h dX6_placeIn_6 (by decide) ?_
  have hf := Option.some.inj hf
  subst hf
  exact hr 7 _ dX6_placeIn_7
theorem c_X6_placeIn {u : St} {l0 : Int32} {r : Int32} (hf : f_X6_placeIn u l0 = some r) : CtI shX yX6_placeIn cX6_placeIn 1 (some .int) rm_X6_placeIn [.inl l0] u r u := ct_I (by decide +kernel) (Nat.le_of_ble_eq_true rfl) (fun K E h hr => w_X6_placeIn_0 h hr _ hf)
set_option maxRecDepth 100000 in
set_option maxHeartbeats 4000000 in
theorem w_X6_thickIn_0 {K : Kx} {E : Ex} (h : Ok shX K E RX6 cX6_thickIn 1 rm_X6_thickIn) {r : Int32} {u : St} (hr : RetI shX K E cX6_thickIn 1 r u) (l0 : Int32) (hf : f_X6_thickIn u l0 = some r) : Vd shX K E 1 0 [some (.inl l0)] [] u := by
  refine r_iload_n (pc := 0) h dX6_thickIn_0 rfl ?_
  refine r_bipush (pc := 1) (v := 10) h dX6_thickIn_1 (by decide) ?_
  refine r_idiv (pc := 3) h dX6_thickIn_3 (by decide) ?_
  refine r_bipush (pc := 4) (v := 10) h dX6_thickIn_4 (by decide) ?_
  refine r_irem (pc := 6) h dX6_thickIn_6 (by decide) ?_
  have hf := Option.some.inj hf
  subst hf
  exact hr 7 _ dX6_thickIn_7
theorem c_X6_thickIn {u : St} {l0 : Int32} {r : Int32} (hf : f_X6_thickIn u l0 = some r) : CtI shX yX6_thickIn cX6_thickIn 1 (some .int) rm_X6_thickIn [.inl l0] u r u := ct_I (by decide +kernel) (Nat.le_of_ble_eq_true rfl) (fun K E h hr => w_X6_thickIn_0 h hr _ hf)
set_option maxRecDepth 100000 in
set_option maxHeartbeats 4000000 in
theorem w_X6_kindIn_0 {K : Kx} {E : Ex} (h : Ok shX K E RX6 cX6_kindIn 1 rm_X6_kindIn) {r : Int32} {u : St} (hr : RetI shX K E cX6_kindIn 1 r u) (l0 : Int32) (hf : f_X6_kindIn u l0 = some r) : Vd shX K E 1 0 [some (.inl l0)] [] u := by
  refine r_iload_n (pc := 0) h dX6_kindIn_0 rfl ?_
  refine r_bipush (pc := 1) (v := 10) h dX6_kindIn_1 (by decide) ?_
  refine r_irem (pc := 3) h dX6_kindIn_3 (by decide) ?_
  have hf := Option.some.inj hf
  subst hf
  exact hr 4 _ dX6_kindIn_4
theorem c_X6_kindIn {u : St} {l0 : Int32} {r : Int32} (hf : f_X6_kindIn u l0 = some r) : CtI shX yX6_kindIn cX6_kindIn 1 (some .int) rm_X6_kindIn [.inl l0] u r u := ct_I (by decide +kernel) (Nat.le_of_ble_eq_true rfl) (fun K E h hr => w_X6_kindIn_0 h hr _ hf)
set_option maxRecDepth 100000 in
set_option maxHeartbeats 4000000 in
theorem w_X6_onIn_0 {K : Kx} {E : Ex} (h : Ok shX K E RX6 cX6_onIn 1 rm_X6_onIn) {r : Int32} {u : St} (hr : RetI shX K E cX6_onIn 1 r u) (l0 : Int32) (hf : f_X6_onIn u l0 = some r) : Vd shX K E 1 0 [some (.inl l0)] [] u := by
  refine r_iload_n (pc := 0) h dX6_onIn_0 rfl ?_
  refine r_bipush (pc := 1) (v := 100) h dX6_onIn_1 (by decide) ?_
  refine r_idiv (pc := 3) h dX6_onIn_3 (by decide) ?_
  have hf := Option.some.inj hf
  subst hf
  exact hr 4 _ dX6_onIn_4
theorem c_X6_onIn {u : St} {l0 : Int32} {r : Int32} (hf : f_X6_onIn u l0 = some r) : CtI shX yX6_onIn cX6_onIn 1 (some .int) rm_X6_onIn [.inl l0] u r u := ct_I (by decide +kernel) (Nat.le_of_ble_eq_true rfl) (fun K E h hr => w_X6_onIn_0 h hr _ hf)
set_option maxRecDepth 100000 in
set_option maxHeartbeats 4000000 in
theorem w_X6_offIn_0 {K : Kx} {E : Ex} (h : Ok shX K E RX6 cX6_offIn 1 rm_X6_offIn) {r : Int32} {u : St} (hr : RetI shX K E cX6_offIn 1 r u) (l0 : Int32) (hf : f_X6_offIn u l0 = some r) : Vd shX K E 1 0 [some (.inl l0)] [] u := by
  refine r_iload_n (pc := 0) h dX6_offIn_0 rfl ?_
  refine r_bipush (pc := 1) (v := 100) h dX6_offIn_1 (by decide) ?_
  refine r_irem (pc := 3) h dX6_offIn_3 (by decide) ?_
  have hf := Option.some.inj hf
  subst hf
  exact hr 4 _ dX6_offIn_4
theorem c_X6_offIn {u : St} {l0 : Int32} {r : Int32} (hf : f_X6_offIn u l0 = some r) : CtI shX yX6_offIn cX6_offIn 1 (some .int) rm_X6_offIn [.inl l0] u r u := ct_I (by decide +kernel) (Nat.le_of_ble_eq_true rfl) (fun K E h hr => w_X6_offIn_0 h hr _ hf)
set_option maxRecDepth 100000 in
set_option maxHeartbeats 4000000 in
theorem w_X6_sizeIn_0 {K : Kx} {E : Ex} (h : Ok shX K E RX6 cX6_sizeIn 1 rm_X6_sizeIn) {r : Int32} {u : St} (hr : RetI shX K E cX6_sizeIn 1 r u) (l0 : Int32) (hf : f_X6_sizeIn u l0 = some r) : Vd shX K E 1 0 [some (.inl l0)] [] u := by
  refine r_iload_n (pc := 0) h dX6_sizeIn_0 rfl ?_
  refine r_bipush (pc := 1) (v := 10) h dX6_sizeIn_1 (by decide) ?_
  refine r_idiv (pc := 3) h dX6_sizeIn_3 (by decide) ?_
  have hf := Option.some.inj hf
  subst hf
  exact hr 4 _ dX6_sizeIn_4
theorem c_X6_sizeIn {u : St} {l0 : Int32} {r : Int32} (hf : f_X6_sizeIn u l0 = some r) : CtI shX yX6_sizeIn cX6_sizeIn 1 (some .int) rm_X6_sizeIn [.inl l0] u r u := ct_I (by decide +kernel) (Nat.le_of_ble_eq_true rfl) (fun K E h hr => w_X6_sizeIn_0 h hr _ hf)
set_option maxRecDepth 100000 in
set_option maxHeartbeats 4000000 in
theorem w_X6_spanIn_0 {K : Kx} {E : Ex} (h : Ok shX K E RX6 cX6_spanIn 1 rm_X6_spanIn) {r : Int32} {u : St} (hr : RetI shX K E cX6_spanIn 1 r u) (l0 : Int32) (hf : f_X6_spanIn u l0 = some r) : Vd shX K E 1 0 [some (.inl l0)] [] u := by
  refine r_iload_n (pc := 0) h dX6_spanIn_0 rfl ?_
  refine r_bipush (pc := 1) (v := 10) h dX6_spanIn_1 (by decide) ?_
  refine r_irem (pc := 3) h dX6_spanIn_3 (by decide) ?_
  have hf := Option.some.inj hf
  subst hf
  exact hr 4 _ dX6_spanIn_4
theorem c_X6_spanIn {u : St} {l0 : Int32} {r : Int32} (hf : f_X6_spanIn u l0 = some r) : CtI shX yX6_spanIn cX6_spanIn 1 (some .int) rm_X6_spanIn [.inl l0] u r u := ct_I (by decide +kernel) (Nat.le_of_ble_eq_true rfl) (fun K E h hr => w_X6_spanIn_0 h hr _ hf)
set_option maxRecDepth 100000 in
set_option maxHeartbeats 4000000 in
theorem w_X6_isPieceTold_93 {K : Kx} {E : Ex} (h : Ok shX K E RX6 cX6_isPieceTold 3 rm_X6_isPieceTold) {r : Int32} {u : St} (hr : RetZ shX K E cX6_isPieceTold 3 r u) (l2 s0 s1 s2 : Int32) (hf : f_X6_isPieceTold_93 u l2 s0 s1 s2 = some r) : Vd shX K E 3 93 [none, none, some (.inl l2)] [.inl s2, .inl s1, .inl s0] u := by
  refine p_b hf (fun q1 e2 hf => ?_)
  refine r_cSi (pc := 93) (st := []) h [.inl s0, .inl s1, .inl s2] cs_X6_isWithin wm_X6_88 (c_X6_isWithin e2) ⟨rfl, rfl, Nat.le_of_ble_eq_true rfl, Nat.le_of_ble_eq_true rfl⟩ (Nat.le_of_ble_eq_true rfl) dX6_isPieceTold_93 ?_
  refine p_ite hf (fun hc3 hf => ?_) (fun hc3 hf => ?_)
  · refine r_if_eq (pc := 96) (tgt := 130) h dX6_isPieceTold_96 (by decide) (fun _ => ?_) (fun q => absurd hc3 q)
    refine r_iconst (pc := 130) (v := 0) h dX6_isPieceTold_130 (by decide) ?_
    have hf := Option.some.inj hf
    subst hf
    exact hr 131 _ dX6_isPieceTold_131 z_0
  · refine r_if_eq (pc := 96) (tgt := 130) h dX6_isPieceTold_96 (by decide) (fun q => absurd q hc3) (fun _ => ?_)
    refine r_iload_n (pc := 99) h dX6_isPieceTold_99 rfl ?_
    refine p_b hf (fun q4 e5 hf => ?_)
    refine r_cSi (pc := 100) (st := []) h [.inl l2] cs_X6_sizeIn wm_X6_230 (c_X6_sizeIn e5) ⟨rfl, rfl, Nat.le_of_ble_eq_true rfl, Nat.le_of_ble_eq_true rfl⟩ (Nat.le_of_ble_eq_true rfl) dX6_isPieceTold_100 ?_
    refine r_bipush (pc := 103) (v := 30) h dX6_isPieceTold_103 (by decide) ?_
    refine r_bipush (pc := 105) (v := 60) h dX6_isPieceTold_105 (by decide) ?_
    refine p_b hf (fun q6 e7 hf => ?_)
    refine r_cSi (pc := 107) (st := []) h [.inl q4, .inl 30, .inl 60] cs_X6_isWithin wm_X6_88 (c_X6_isWithin e7) ⟨rfl, rfl, Nat.le_of_ble_eq_true rfl, Nat.le_of_ble_eq_true rfl⟩ (Nat.le_of_ble_eq_true rfl) dX6_isPieceTold_107 ?_
    refine p_ite hf (fun hc8 hf => ?_) (fun hc8 hf => ?_)
    · refine r_if_eq (pc := 110) (tgt := 130) h dX6_isPieceTold_110 (by decide) (fun _ => ?_) (fun q => absurd hc8 q)
      refine r_iconst (pc := 130) (v := 0) h dX6_isPieceTold_130 (by decide) ?_
      have hf := Option.some.inj hf
      subst hf
      exact hr 131 _ dX6_isPieceTold_131 z_0
    · refine r_if_eq (pc := 110) (tgt := 130) h dX6_isPieceTold_110 (by decide) (fun q => absurd q hc8) (fun _ => ?_)
      refine r_iload_n (pc := 113) h dX6_isPieceTold_113 rfl ?_
      refine p_b hf (fun q9 e10 hf => ?_)
      refine r_cSi (pc := 114) (st := []) h [.inl l2] cs_X6_spanIn wm_X6_233 (c_X6_spanIn e10) ⟨rfl, rfl, Nat.le_of_ble_eq_true rfl, Nat.le_of_ble_eq_true rfl⟩ (Nat.le_of_ble_eq_true rfl) dX6_isPieceTold_114 ?_
      refine r_iconst (pc := 117) (v := 0) h dX6_isPieceTold_117 (by decide) ?_
      refine r_bipush (pc := 118) (v := 6) h dX6_isPieceTold_118 (by decide) ?_
      refine p_b hf (fun q11 e12 hf => ?_)
      refine r_cSi (pc := 120) (st := []) h [.inl q9, .inl 0, .inl 6] cs_X6_isWithin wm_X6_88 (c_X6_isWithin e12) ⟨rfl, rfl, Nat.le_of_ble_eq_true rfl, Nat.le_of_ble_eq_true rfl⟩ (Nat.le_of_ble_eq_true rfl) dX6_isPieceTold_120 ?_
      refine p_ite hf (fun hc13 hf => ?_) (fun hc13 hf => ?_)
      · refine r_if_eq (pc := 123) (tgt := 130) h dX6_isPieceTold_123 (by decide) (fun _ => ?_) (fun q => absurd hc13 q)
        refine r_iconst (pc := 130) (v := 0) h dX6_isPieceTold_130 (by decide) ?_
        have hf := Option.some.inj hf
        subst hf
        exact hr 131 _ dX6_isPieceTold_131 z_0
      · refine r_if_eq (pc := 123) (tgt := 130) h dX6_isPieceTold_123 (by decide) (fun q => absurd q hc13) (fun _ => ?_)
        refine r_iconst (pc := 126) (v := 1) h dX6_isPieceTold_126 (by decide) ?_
        refine r_goto (pc := 127) (tgt := 131) h dX6_isPieceTold_127 (by decide) ?_
        have hf := Option.some.inj hf
        subst hf
        exact hr 131 _ dX6_isPieceTold_131 z_1
set_option maxRecDepth 100000 in
set_option maxHeartbeats 4000000 in
theorem w_X6_isPieceTold_0 {K : Kx} {E : Ex} (h : Ok shX K E RX6 cX6_isPieceTold 3 rm_X6_isPieceTold) {r : Int32} {u : St} (hr : RetZ shX K E cX6_isPieceTold 3 r u) (l0 l1 l2 : Int32) (hf : f_X6_isPieceTold u l0 l1 l2 = some r) : Vd shX K E 3 0 [some (.inl l0), some (.inl l1), some (.inl l2)] [] u := by
  refine r_iload_n (pc := 0) h dX6_isPieceTold_0 rfl ?_
  refine p_ite hf (fun hc14 hf => ?_) (fun hc14 hf => ?_)
  · refine r_if_lt (pc := 1) (tgt := 130) h dX6_isPieceTold_1 (by decide) (fun _ => ?_) (fun q => absurd hc14 q)
    refine r_iconst (pc := 130) (v := 0) h dX6_isPieceTold_130 (by decide) ?_
    have hf := Option.some.inj hf
    subst hf
    exact hr 131 _ dX6_isPieceTold_131 z_0
  · refine r_if_lt (pc := 1) (tgt := 130) h dX6_isPieceTold_1 (by decide) (fun q => absurd q hc14) (fun _ => ?_)
    refine r_iload_n (pc := 4) h dX6_isPieceTold_4 rfl ?_
    refine p_ite hf (fun hc15 hf => ?_) (fun hc15 hf => ?_)
    · refine r_if_lt (pc := 5) (tgt := 130) h dX6_isPieceTold_5 (by decide) (fun _ => ?_) (fun q => absurd hc15 q)
      refine r_iconst (pc := 130) (v := 0) h dX6_isPieceTold_130 (by decide) ?_
      have hf := Option.some.inj hf
      subst hf
      exact hr 131 _ dX6_isPieceTold_131 z_0
    · refine r_if_lt (pc := 5) (tgt := 130) h dX6_isPieceTold_5 (by decide) (fun q => absurd q hc15) (fun _ => ?_)
      refine r_iload_n (pc := 8) h dX6_isPieceTold_8 rfl ?_
      refine p_ite hf (fun hc16 hf => ?_) (fun hc16 hf => ?_)
      · refine r_if_lt (pc := 9) (tgt := 130) h dX6_isPieceTold_9 (by decide) (fun _ => ?_) (fun q => absurd hc16 q)
        refine r_iconst (pc := 130) (v := 0) h dX6_isPieceTold_130 (by decide) ?_
        have hf := Option.some.inj hf
        subst hf
        exact hr 131 _ dX6_isPieceTold_131 z_0
      · refine r_if_lt (pc := 9) (tgt := 130) h dX6_isPieceTold_9 (by decide) (fun q => absurd q hc16) (fun _ => ?_)
        refine r_iload_n (pc := 12) h dX6_isPieceTold_12 rfl ?_
        refine p_b hf (fun q17 e18 hf => ?_)
        refine r_cSi (pc := 13) (st := []) h [.inl l0] cs_X6_nameIn wm_X6_212 (c_X6_nameIn e18) ⟨rfl, rfl, Nat.le_of_ble_eq_true rfl, Nat.le_of_ble_eq_true rfl⟩ (Nat.le_of_ble_eq_true rfl) dX6_isPieceTold_13 ?_
        refine r_iconst (pc := 16) (v := 0) h dX6_isPieceTold_16 (by decide) ?_
        refine r_bipush (pc := 17) (v := 15) h dX6_isPieceTold_17 (by decide) ?_
        refine p_b hf (fun q19 e20 hf => ?_)
        refine r_cSi (pc := 19) (st := []) h [.inl q17, .inl 0, .inl 15] cs_X6_isWithin wm_X6_88 (c_X6_isWithin e20) ⟨rfl, rfl, Nat.le_of_ble_eq_true rfl, Nat.le_of_ble_eq_true rfl⟩ (Nat.le_of_ble_eq_true rfl) dX6_isPieceTold_19 ?_
        refine p_ite hf (fun hc21 hf => ?_) (fun hc21 hf => ?_)
        · refine r_if_eq (pc := 22) (tgt := 130) h dX6_isPieceTold_22 (by decide) (fun _ => ?_) (fun q => absurd hc21 q)
          refine r_iconst (pc := 130) (v := 0) h dX6_isPieceTold_130 (by decide) ?_
          have hf := Option.some.inj hf
          subst hf
          exact hr 131 _ dX6_isPieceTold_131 z_0
        · refine r_if_eq (pc := 22) (tgt := 130) h dX6_isPieceTold_22 (by decide) (fun q => absurd q hc21) (fun _ => ?_)
          refine r_iload_n (pc := 25) h dX6_isPieceTold_25 rfl ?_
          refine p_b hf (fun q22 e23 hf => ?_)
          refine r_cSi (pc := 26) (st := []) h [.inl l0] cs_X6_placeIn wm_X6_215 (c_X6_placeIn e23) ⟨rfl, rfl, Nat.le_of_ble_eq_true rfl, Nat.le_of_ble_eq_true rfl⟩ (Nat.le_of_ble_eq_true rfl) dX6_isPieceTold_26 ?_
          refine r_iconst (pc := 29) (v := 0) h dX6_isPieceTold_29 (by decide) ?_
          refine r_iconst (pc := 30) (v := 5) h dX6_isPieceTold_30 (by decide) ?_
          refine p_b hf (fun q24 e25 hf => ?_)
          refine r_cSi (pc := 31) (st := []) h [.inl q22, .inl 0, .inl 5] cs_X6_isWithin wm_X6_88 (c_X6_isWithin e25) ⟨rfl, rfl, Nat.le_of_ble_eq_true rfl, Nat.le_of_ble_eq_true rfl⟩ (Nat.le_of_ble_eq_true rfl) dX6_isPieceTold_31 ?_
          refine p_ite hf (fun hc26 hf => ?_) (fun hc26 hf => ?_)
          · refine r_if_eq (pc := 34) (tgt := 130) h dX6_isPieceTold_34 (by decide) (fun _ => ?_) (fun q => absurd hc26 q)
            refine r_iconst (pc := 130) (v := 0) h dX6_isPieceTold_130 (by decide) ?_
            have hf := Option.some.inj hf
            subst hf
            exact hr 131 _ dX6_isPieceTold_131 z_0
          · refine r_if_eq (pc := 34) (tgt := 130) h dX6_isPieceTold_34 (by decide) (fun q => absurd q hc26) (fun _ => ?_)
            refine r_iload_n (pc := 37) h dX6_isPieceTold_37 rfl ?_
            refine p_b hf (fun q27 e28 hf => ?_)
            refine r_cSi (pc := 38) (st := []) h [.inl l0] cs_X6_thickIn wm_X6_218 (c_X6_thickIn e28) ⟨rfl, rfl, Nat.le_of_ble_eq_true rfl, Nat.le_of_ble_eq_true rfl⟩ (Nat.le_of_ble_eq_true rfl) dX6_isPieceTold_38 ?_
            refine r_iconst (pc := 41) (v := 1) h dX6_isPieceTold_41 (by decide) ?_
            refine r_iconst (pc := 42) (v := 5) h dX6_isPieceTold_42 (by decide) ?_
            refine p_b hf (fun q29 e30 hf => ?_)
            refine r_cSi (pc := 43) (st := []) h [.inl q27, .inl 1, .inl 5] cs_X6_isWithin wm_X6_88 (c_X6_isWithin e30) ⟨rfl, rfl, Nat.le_of_ble_eq_true rfl, Nat.le_of_ble_eq_true rfl⟩ (Nat.le_of_ble_eq_true rfl) dX6_isPieceTold_43 ?_
            refine p_ite hf (fun hc31 hf => ?_) (fun hc31 hf => ?_)
            · refine r_if_eq (pc := 46) (tgt := 130) h dX6_isPieceTold_46 (by decide) (fun _ => ?_) (fun q => absurd hc31 q)
              refine r_iconst (pc := 130) (v := 0) h dX6_isPieceTold_130 (by decide) ?_
              have hf := Option.some.inj hf
              subst hf
              exact hr 131 _ dX6_isPieceTold_131 z_0
            · refine r_if_eq (pc := 46) (tgt := 130) h dX6_isPieceTold_46 (by decide) (fun q => absurd q hc31) (fun _ => ?_)
              refine r_iload_n (pc := 49) h dX6_isPieceTold_49 rfl ?_
              refine p_b hf (fun q32 e33 hf => ?_)
              refine r_cSi (pc := 50) (st := []) h [.inl l0] cs_X6_kindIn wm_X6_221 (c_X6_kindIn e33) ⟨rfl, rfl, Nat.le_of_ble_eq_true rfl, Nat.le_of_ble_eq_true rfl⟩ (Nat.le_of_ble_eq_true rfl) dX6_isPieceTold_50 ?_
              refine r_iconst (pc := 53) (v := 0) h dX6_isPieceTold_53 (by decide) ?_
              refine r_iconst (pc := 54) (v := 2) h dX6_isPieceTold_54 (by decide) ?_
              refine p_b hf (fun q34 e35 hf => ?_)
              refine r_cSi (pc := 55) (st := []) h [.inl q32, .inl 0, .inl 2] cs_X6_isWithin wm_X6_88 (c_X6_isWithin e35) ⟨rfl, rfl, Nat.le_of_ble_eq_true rfl, Nat.le_of_ble_eq_true rfl⟩ (Nat.le_of_ble_eq_true rfl) dX6_isPieceTold_55 ?_
              refine p_ite hf (fun hc36 hf => ?_) (fun hc36 hf => ?_)
              · refine r_if_eq (pc := 58) (tgt := 130) h dX6_isPieceTold_58 (by decide) (fun _ => ?_) (fun q => absurd hc36 q)
                refine r_iconst (pc := 130) (v := 0) h dX6_isPieceTold_130 (by decide) ?_
                have hf := Option.some.inj hf
                subst hf
                exact hr 131 _ dX6_isPieceTold_131 z_0
              · refine r_if_eq (pc := 58) (tgt := 130) h dX6_isPieceTold_58 (by decide) (fun q => absurd q hc36) (fun _ => ?_)
                refine r_iload_n (pc := 61) h dX6_isPieceTold_61 rfl ?_
                refine p_b hf (fun q37 e38 hf => ?_)
                refine r_cSi (pc := 62) (st := []) h [.inl l1] cs_X6_onIn wm_X6_224 (c_X6_onIn e38) ⟨rfl, rfl, Nat.le_of_ble_eq_true rfl, Nat.le_of_ble_eq_true rfl⟩ (Nat.le_of_ble_eq_true rfl) dX6_isPieceTold_62 ?_
                refine r_iconst (pc := 65) (v := 1) h dX6_isPieceTold_65 (by decide) ?_
                refine r_bipush (pc := 66) (v := 60) h dX6_isPieceTold_66 (by decide) ?_
                refine p_b hf (fun q39 e40 hf => ?_)
                refine r_cSi (pc := 68) (st := []) h [.inl q37, .inl 1, .inl 60] cs_X6_isWithin wm_X6_88 (c_X6_isWithin e40) ⟨rfl, rfl, Nat.le_of_ble_eq_true rfl, Nat.le_of_ble_eq_true rfl⟩ (Nat.le_of_ble_eq_true rfl) dX6_isPieceTold_68 ?_
                refine p_ite hf (fun hc41 hf => ?_) (fun hc41 hf => ?_)
                · refine r_if_eq (pc := 71) (tgt := 130) h dX6_isPieceTold_71 (by decide) (fun _ => ?_) (fun q => absurd hc41 q)
                  refine r_iconst (pc := 130) (v := 0) h dX6_isPieceTold_130 (by decide) ?_
                  have hf := Option.some.inj hf
                  subst hf
                  exact hr 131 _ dX6_isPieceTold_131 z_0
                · refine r_if_eq (pc := 71) (tgt := 130) h dX6_isPieceTold_71 (by decide) (fun q => absurd q hc41) (fun _ => ?_)
                  refine r_iload_n (pc := 74) h dX6_isPieceTold_74 rfl ?_
                  refine p_b hf (fun q42 e43 hf => ?_)
                  refine r_cSi (pc := 75) (st := []) h [.inl l1] cs_X6_offIn wm_X6_227 (c_X6_offIn e43) ⟨rfl, rfl, Nat.le_of_ble_eq_true rfl, Nat.le_of_ble_eq_true rfl⟩ (Nat.le_of_ble_eq_true rfl) dX6_isPieceTold_75 ?_
                  refine r_iconst (pc := 78) (v := 1) h dX6_isPieceTold_78 (by decide) ?_
                  refine r_iload_n (pc := 79) h dX6_isPieceTold_79 rfl ?_
                  refine p_b hf (fun q44 e45 hf => ?_)
                  refine r_cSi (pc := 80) (st := [.inl 1, .inl q42]) h [.inl l0] cs_X6_kindIn wm_X6_221 (c_X6_kindIn e45) ⟨rfl, rfl, Nat.le_of_ble_eq_true rfl, Nat.le_of_ble_eq_true rfl⟩ (Nat.le_of_ble_eq_true rfl) dX6_isPieceTold_80 ?_
                  refine r_iconst (pc := 83) (v := 2) h dX6_isPieceTold_83 (by decide) ?_
                  refine p_ite hf (fun hc46 hf => ?_) (fun hc46 hf => ?_)
                  · refine r_icmp_ne (pc := 84) (tgt := 91) h dX6_isPieceTold_84 (by decide) (fun q => absurd hc46 q) (fun _ => ?_)
                    refine r_iconst (pc := 87) (v := 1) h dX6_isPieceTold_87 (by decide) ?_
                    refine r_goto (pc := 88) (tgt := 93) h dX6_isPieceTold_88 (by decide) ?_
                    refine r_le [none, none, some (.inl l2)] ⟨rfl, trivial⟩ ?_
                    exact w_X6_isPieceTold_93 h hr _ _ _ _ hf
                  · refine r_icmp_ne (pc := 84) (tgt := 91) h dX6_isPieceTold_84 (by decide) (fun _ => ?_) (fun q => absurd q hc46)
                    refine r_bipush (pc := 91) (v := 60) h dX6_isPieceTold_91 (by decide) ?_
                    refine r_le [none, none, some (.inl l2)] ⟨rfl, trivial⟩ ?_
                    exact w_X6_isPieceTold_93 h hr _ _ _ _ hf
theorem c_X6_isPieceTold {u : St} {l0 l1 l2 : Int32} {r : Int32} (hf : f_X6_isPieceTold u l0 l1 l2 = some r) : CtI shX yX6_isPieceTold cX6_isPieceTold 3 (some .boolean) rm_X6_isPieceTold [.inl l0, .inl l1, .inl l2] u r u := ct_Z (by decide +kernel) (Nat.le_of_ble_eq_true rfl) (fun K E h hr => w_X6_isPieceTold_0 h hr _ _ _ hf)
set_option maxRecDepth 100000 in
set_option maxHeartbeats 4000000 in
theorem w_X6_finding_0 {K : Kx} {E : Ex} (h : Ok shX K E RX6 cX6_finding 2 rm_X6_finding) {r : Int32 × St} (hr : RetI shX K E cX6_finding 2 r.1 r.2) (u : St) (l1 : Int32) (hf : f_X6_finding u l1 = some r) : Vd shX K E 2 0 [some (.inr 0), some (.inl l1)] [] u := by
  refine r_iload_n (pc := 0) h dX6_finding_0 rfl ?_
  refine r_iconst (pc := 1) (v := 1) h dX6_finding_1 (by decide) ?_
  refine r_iconst (pc := 2) (v := 5) h dX6_finding_2 (by decide) ?_
  refine p_b hf (fun q1 e2 hf => ?_)
  refine r_cSi (pc := 3) (st := []) h [.inl l1, .inl 1, .inl 5] cs_X6_isWithin wm_X6_88 (c_X6_isWithin e2) ⟨rfl, rfl, Nat.le_of_ble_eq_true rfl, Nat.le_of_ble_eq_true rfl⟩ (Nat.le_of_ble_eq_true rfl) dX6_finding_3 ?_
  refine p_ite hf (fun hc3 hf => ?_) (fun hc3 hf => ?_)
  · refine r_if_eq (pc := 6) (tgt := 19) h dX6_finding_6 (by decide) (fun _ => ?_) (fun q => absurd hc3 q)
    refine r_ldc (pc := 19) h dX6_finding_19 wc_X6_211 ?_
    refine r_iload_n (pc := 21) h dX6_finding_21 rfl ?_
    refine r_isub (pc := 22) h dX6_finding_22 ?_
    have hf := Option.some.inj hf
    subst hf
    exact hr 23 _ dX6_finding_23
  · refine r_if_eq (pc := 6) (tgt := 19) h dX6_finding_6 (by decide) (fun q => absurd q hc3) (fun _ => ?_)
    refine r_aload_n (pc := 9) h dX6_finding_9 rfl ?_
    refine gf_X6_61 (pc := 10) h dX6_finding_10 ?_
    refine r_iload_n (pc := 13) h dX6_finding_13 rfl ?_
    refine r_dup2 (pc := 14) h dX6_finding_14 ?_
    refine p_g hf (fun hi4 hf => ?_)
    refine r_iald (pc := 15) (k := 30) (v := (u 30 l1.toNatClampNeg)) h hshX_30 hi4 rfl dX6_finding_15 ?_
    refine r_iconst (pc := 16) (v := 1) h dX6_finding_16 (by decide) ?_
    refine r_iadd (pc := 17) h dX6_finding_17 ?_
    refine r_iast (pc := 18) (k := 30) h hshX_30 hi4 dX6_finding_18 ?_
    refine r_ldc (pc := 19) h dX6_finding_19 wc_X6_211 ?_
    refine r_iload_n (pc := 21) h dX6_finding_21 rfl ?_
    refine r_isub (pc := 22) h dX6_finding_22 ?_
    have hf := Option.some.inj hf
    subst hf
    exact hr 23 _ dX6_finding_23
theorem c_X6_finding {u : St} {l1 : Int32} {r : Int32 × St} (hf : f_X6_finding u l1 = some r) : CtI shX yX6_finding cX6_finding 2 (some .int) rm_X6_finding [.inr 0, .inl l1] u r.1 r.2 := ct_I (by decide +kernel) (Nat.le_of_ble_eq_true rfl) (fun K E h hr => w_X6_finding_0 h hr _ _ hf)
set_option maxRecDepth 100000 in
set_option maxHeartbeats 4000000 in
theorem w_X5_isFull_0 {K : Kx} {E : Ex} (h : Ok shX K E RX5 cX5_isFull 1 rm_X5_isFull) {r : Int32} {u : St} (hr : RetZ shX K E cX5_isFull 1 r u)  (hf : f_X5_isFull u = some r) : Vd shX K E 1 0 [some (.inr 1)] [] u := by
  refine r_aload_n (pc := 0) h dX5_isFull_0 rfl ?_
  refine gf_X5_15 (pc := 1) (v := (u 1 1)) h rfl dX5_isFull_1 ?_
  refine r_bipush (pc := 4) (v := 32) h dX5_isFull_4 (by decide) ?_
  refine p_ite hf (fun hc1 hf => ?_) (fun hc1 hf => ?_)
  · refine r_icmp_lt (pc := 6) (tgt := 13) h dX5_isFull_6 (by decide) (fun _ => ?_) (fun q => absurd hc1 q)
    refine r_iconst (pc := 13) (v := 0) h dX5_isFull_13 (by decide) ?_
    have hf := Option.some.inj hf
    subst hf
    exact hr 14 _ dX5_isFull_14 z_0
  · refine r_icmp_lt (pc := 6) (tgt := 13) h dX5_isFull_6 (by decide) (fun q => absurd q hc1) (fun _ => ?_)
    refine r_iconst (pc := 9) (v := 1) h dX5_isFull_9 (by decide) ?_
    refine r_goto (pc := 10) (tgt := 14) h dX5_isFull_10 (by decide) ?_
    have hf := Option.some.inj hf
    subst hf
    exact hr 14 _ dX5_isFull_14 z_1
theorem c_X5_isFull {u : St} {r : Int32} (hf : f_X5_isFull u = some r) : CtI shX yX5_isFull cX5_isFull 1 (some .boolean) rm_X5_isFull [.inr 1] u r u := ct_Z (by decide +kernel) (Nat.le_of_ble_eq_true rfl) (fun K E h hr => w_X5_isFull_0 h hr  hf)
set_option maxRecDepth 100000 in
set_option maxHeartbeats 4000000 in
theorem w_X5_has_0 {K : Kx} {E : Ex} (h : Ok shX K E RX5 cX5_has 2 rm_X5_has) {r : Int32} {u : St} (hr : RetZ shX K E cX5_has 2 r u) (l1 : Int32) (hf : f_X5_has u l1 = some r) : Vd shX K E 2 0 [some (.inr 1), some (.inl l1)] [] u := by
  refine r_iload_n (pc := 0) h dX5_has_0 rfl ?_
  refine p_ite hf (fun hc1 hf => ?_) (fun hc1 hf => ?_)
  · refine r_if_lt (pc := 1) (tgt := 22) h dX5_has_1 (by decide) (fun _ => ?_) (fun q => absurd hc1 q)
    refine r_iconst (pc := 22) (v := 0) h dX5_has_22 (by decide) ?_
    have hf := Option.some.inj hf
    subst hf
    exact hr 23 _ dX5_has_23 z_0
  · refine r_if_lt (pc := 1) (tgt := 22) h dX5_has_1 (by decide) (fun q => absurd q hc1) (fun _ => ?_)
    refine r_iload_n (pc := 4) h dX5_has_4 rfl ?_
    refine r_aload_n (pc := 5) h dX5_has_5 rfl ?_
    refine gf_X5_15 (pc := 6) (v := (u 1 1)) h rfl dX5_has_6 ?_
    refine p_ite hf (fun hc2 hf => ?_) (fun hc2 hf => ?_)
    · refine r_icmp_ge (pc := 9) (tgt := 22) h dX5_has_9 (by decide) (fun _ => ?_) (fun q => absurd hc2 q)
      refine r_iconst (pc := 22) (v := 0) h dX5_has_22 (by decide) ?_
      have hf := Option.some.inj hf
      subst hf
      exact hr 23 _ dX5_has_23 z_0
    · refine r_icmp_ge (pc := 9) (tgt := 22) h dX5_has_9 (by decide) (fun q => absurd q hc2) (fun _ => ?_)
      refine r_iload_n (pc := 12) h dX5_has_12 rfl ?_
      refine r_bipush (pc := 13) (v := 32) h dX5_has_13 (by decide) ?_
      refine p_ite hf (fun hc3 hf => ?_) (fun hc3 hf => ?_)
      · refine r_icmp_ge (pc := 15) (tgt := 22) h dX5_has_15 (by decide) (fun _ => ?_) (fun q => absurd hc3 q)
        refine r_iconst (pc := 22) (v := 0) h dX5_has_22 (by decide) ?_
        have hf := Option.some.inj hf
        subst hf
        exact hr 23 _ dX5_has_23 z_0
      · refine r_icmp_ge (pc := 15) (tgt := 22) h dX5_has_15 (by decide) (fun q => absurd q hc3) (fun _ => ?_)
        refine r_iconst (pc := 18) (v := 1) h dX5_has_18 (by decide) ?_
        refine r_goto (pc := 19) (tgt := 23) h dX5_has_19 (by decide) ?_
        have hf := Option.some.inj hf
        subst hf
        exact hr 23 _ dX5_has_23 z_1
theorem c_X5_has {u : St} {l1 : Int32} {r : Int32} (hf : f_X5_has u l1 = some r) : CtI shX yX5_has cX5_has 2 (some .boolean) rm_X5_has [.inr 1, .inl l1] u r u := ct_Z (by decide +kernel) (Nat.le_of_ble_eq_true rfl) (fun K E h hr => w_X5_has_0 h hr _ hf)
set_option maxRecDepth 100000 in
set_option maxHeartbeats 4000000 in
theorem w_X5_setFact_0 {K : Kx} {E : Ex} (h : Ok shX K E RX5 cX5_setFact 4 rm_X5_setFact) {r : St} (hr : RetV shX K E cX5_setFact 4 r) (u : St) (l1 l2 l3 : Int32) (hf : f_X5_setFact u l1 l2 l3 = some r) : Vd shX K E 4 0 [some (.inr 1), some (.inl l1), some (.inl l2), some (.inl l3)] [] u := by
  refine r_aload_n (pc := 0) h dX5_setFact_0 rfl ?_
  refine r_iload_n (pc := 1) h dX5_setFact_1 rfl ?_
  refine p_b hf (fun q1 e2 hf => ?_)
  refine r_cVi (pc := 2) (k := 1) (st := []) h [.inl l1] cv_X5_has wm_X5_19 (c_X5_has e2) ⟨rfl, rfl, Nat.le_of_ble_eq_true rfl, Nat.le_of_ble_eq_true rfl⟩ hshX_1 rfl rfl (Nat.le_of_ble_eq_true rfl) dX5_setFact_2 ?_
  refine p_ite hf (fun hc3 hf => ?_) (fun hc3 hf => ?_)
  · refine r_if_eq (pc := 5) (tgt := 30) h dX5_setFact_5 (by decide) (fun _ => ?_) (fun q => absurd hc3 q)
    have hf := Option.some.inj hf
    subst hf
    exact hr 30 _ dX5_setFact_30
  · refine r_if_eq (pc := 5) (tgt := 30) h dX5_setFact_5 (by decide) (fun q => absurd q hc3) (fun _ => ?_)
    refine r_iload_n (pc := 8) h dX5_setFact_8 rfl ?_
    refine p_ite hf (fun hc4 hf => ?_) (fun hc4 hf => ?_)
    · refine r_if_lt (pc := 9) (tgt := 30) h dX5_setFact_9 (by decide) (fun _ => ?_) (fun q => absurd hc4 q)
      have hf := Option.some.inj hf
      subst hf
      exact hr 30 _ dX5_setFact_30
    · refine r_if_lt (pc := 9) (tgt := 30) h dX5_setFact_9 (by decide) (fun q => absurd q hc4) (fun _ => ?_)
      refine r_iload_n (pc := 12) h dX5_setFact_12 rfl ?_
      refine r_bipush (pc := 13) (v := 10) h dX5_setFact_13 (by decide) ?_
      refine p_ite hf (fun hc5 hf => ?_) (fun hc5 hf => ?_)
      · refine r_icmp_ge (pc := 15) (tgt := 30) h dX5_setFact_15 (by decide) (fun _ => ?_) (fun q => absurd hc5 q)
        have hf := Option.some.inj hf
        subst hf
        exact hr 30 _ dX5_setFact_30
      · refine r_icmp_ge (pc := 15) (tgt := 30) h dX5_setFact_15 (by decide) (fun q => absurd q hc5) (fun _ => ?_)
        refine r_aload_n (pc := 18) h dX5_setFact_18 rfl ?_
        refine gf_X5_9 (pc := 19) h dX5_setFact_19 ?_
        refine r_iload_n (pc := 22) h dX5_setFact_22 rfl ?_
        refine r_bipush (pc := 23) (v := 10) h dX5_setFact_23 (by decide) ?_
        refine r_imul (pc := 25) h dX5_setFact_25 ?_
        refine r_iload_n (pc := 26) h dX5_setFact_26 rfl ?_
        refine r_iadd (pc := 27) h dX5_setFact_27 ?_
        refine r_iload_n (pc := 28) h dX5_setFact_28 rfl ?_
        refine p_g hf (fun hi6 hf => ?_)
        refine r_iast (pc := 29) (k := 2) h hshX_2 hi6 dX5_setFact_29 ?_
        have hf := Option.some.inj hf
        subst hf
        exact hr 30 _ dX5_setFact_30
theorem c_X5_setFact {u : St} {l1 l2 l3 : Int32} {r : St} (hf : f_X5_setFact u l1 l2 l3 = some r) : CtV shX yX5_setFact cX5_setFact 4 none rm_X5_setFact [.inr 1, .inl l1, .inl l2, .inl l3] u r := ct_V (by decide +kernel) (Nat.le_of_ble_eq_true rfl) (fun K E h hr => w_X5_setFact_0 h hr _ _ _ _ hf)
set_option maxRecDepth 100000 in
set_option maxHeartbeats 4000000 in
theorem w_X5_place_0 {K : Kx} {E : Ex} (h : Ok shX K E RX5 cX5_place 4 rm_X5_place) {r : St} (hr : RetV shX K E cX5_place 4 r) (u : St) (l1 l2 l3 : Int32) (hf : f_X5_place u l1 l2 l3 = some r) : Vd shX K E 4 0 [some (.inr 1), some (.inl l1), some (.inl l2), some (.inl l3)] [] u := by
  refine r_aload_n (pc := 0) h dX5_place_0 rfl ?_
  refine r_iload_n (pc := 1) h dX5_place_1 rfl ?_
  refine r_bipush (pc := 2) (v := 8) h dX5_place_2 (by decide) ?_
  refine r_iload_n (pc := 4) h dX5_place_4 rfl ?_
  refine p_b hf (fun q1 e2 hf => ?_)
  refine r_cVv (pc := 5) (k := 1) (st := []) h [.inl l1, .inl 8, .inl l2] cv_X5_setFact wm_X5_27 (c_X5_setFact e2) ⟨rfl, rfl, Nat.le_of_ble_eq_true rfl, Nat.le_of_ble_eq_true rfl⟩ hshX_1 rfl rfl (Nat.le_of_ble_eq_true rfl) dX5_place_5 ?_
  refine r_aload_n (pc := 8) h dX5_place_8 rfl ?_
  refine r_iload_n (pc := 9) h dX5_place_9 rfl ?_
  refine r_bipush (pc := 10) (v := 9) h dX5_place_10 (by decide) ?_
  refine r_iload_n (pc := 12) h dX5_place_12 rfl ?_
  refine p_b hf (fun q3 e4 hf => ?_)
  refine r_cVv (pc := 13) (k := 1) (st := []) h [.inl l1, .inl 9, .inl l3] cv_X5_setFact wm_X5_27 (c_X5_setFact e4) ⟨rfl, rfl, Nat.le_of_ble_eq_true rfl, Nat.le_of_ble_eq_true rfl⟩ hshX_1 rfl rfl (Nat.le_of_ble_eq_true rfl) dX5_place_13 ?_
  have hf := Option.some.inj hf
  subst hf
  exact hr 16 _ dX5_place_16
theorem c_X5_place {u : St} {l1 l2 l3 : Int32} {r : St} (hf : f_X5_place u l1 l2 l3 = some r) : CtV shX yX5_place cX5_place 4 none rm_X5_place [.inr 1, .inl l1, .inl l2, .inl l3] u r := ct_V (by decide +kernel) (Nat.le_of_ble_eq_true rfl) (fun K E h hr => w_X5_place_0 h hr _ _ _ _ hf)
set_option maxRecDepth 100000 in
set_option maxHeartbeats 4000000 in
theorem w_X5_add_0 {K : Kx} {E : Ex} (h : Ok shX K E RX5 cX5_add 5 rm_X5_add) {r : Int32 × St} (hr : RetI shX K E cX5_add 5 r.1 r.2) (u : St) (l1 l2 l3 : Int32) (hf : f_X5_add u l1 l2 l3 = some r) : Vd shX K E 5 0 [some (.inr 1), some (.inl l1), some (.inl l2), some (.inl l3), none] [] u := by
  refine r_aload_n (pc := 0) h dX5_add_0 rfl ?_
  refine gf_X5_15 (pc := 1) (v := (u 1 1)) h rfl dX5_add_1 ?_
  refine r_istore (pc := 4) (L' := [some (.inr 1), some (.inl l1), some (.inl l2), some (.inl l3), some (.inl (u 1 1))]) h dX5_add_4 (by decide) rfl ?_
  refine r_aload_n (pc := 6) h dX5_add_6 rfl ?_
  refine r_dup (pc := 7) h dX5_add_7 ?_
  refine gf_X5_15 (pc := 8) (v := (u 1 1)) h rfl dX5_add_8 ?_
  refine r_iconst (pc := 11) (v := 1) h dX5_add_11 (by decide) ?_
  refine r_iadd (pc := 12) h dX5_add_12 ?_
  refine pf_X5_15 (pc := 13) h dX5_add_13 ?_
  refine r_aload_n (pc := 16) h dX5_add_16 rfl ?_
  refine r_iload (pc := 17) h dX5_add_17 rfl ?_
  refine r_iconst (pc := 19) (v := 0) h dX5_add_19 (by decide) ?_
  refine r_iload_n (pc := 20) h dX5_add_20 rfl ?_
  refine p_b hf (fun q1 e2 hf => ?_)
  refine r_cNi (pc := 21) (st := [.inl 0, .inl (u 1 1), .inr 1]) h [.inl l1] cs_X6_kindIn nm_X5_23 (c_X6_kindIn e2) ⟨rfl, rfl, Nat.le_of_ble_eq_true rfl, Nat.le_of_ble_eq_true rfl⟩ (Nat.le_of_ble_eq_true rfl) dX5_add_21 ?_
  refine p_b hf (fun q3 e4 hf => ?_)
  refine r_cVv (pc := 24) (k := 1) (st := []) h [.inl (u 1 1), .inl 0, .inl q1] cv_X5_setFact wm_X5_27 (c_X5_setFact e4) ⟨rfl, rfl, Nat.le_of_ble_eq_true rfl, Nat.le_of_ble_eq_true rfl⟩ hshX_1 rfl rfl (Nat.le_of_ble_eq_true rfl) dX5_add_24 ?_
  refine r_aload_n (pc := 27) h dX5_add_27 rfl ?_
  refine r_iload (pc := 28) h dX5_add_28 rfl ?_
  refine r_iconst (pc := 30) (v := 1) h dX5_add_30 (by decide) ?_
  refine r_iload_n (pc := 31) h dX5_add_31 rfl ?_
  refine p_b hf (fun q5 e6 hf => ?_)
  refine r_cNi (pc := 32) (st := [.inl 1, .inl (u 1 1), .inr 1]) h [.inl l1] cs_X6_placeIn nm_X5_31 (c_X6_placeIn e6) ⟨rfl, rfl, Nat.le_of_ble_eq_true rfl, Nat.le_of_ble_eq_true rfl⟩ (Nat.le_of_ble_eq_true rfl) dX5_add_32 ?_
  refine p_b hf (fun q7 e8 hf => ?_)
  refine r_cVv (pc := 35) (k := 1) (st := []) h [.inl (u 1 1), .inl 1, .inl q5] cv_X5_setFact wm_X5_27 (c_X5_setFact e8) ⟨rfl, rfl, Nat.le_of_ble_eq_true rfl, Nat.le_of_ble_eq_true rfl⟩ hshX_1 rfl rfl (Nat.le_of_ble_eq_true rfl) dX5_add_35 ?_
  refine r_aload_n (pc := 38) h dX5_add_38 rfl ?_
  refine r_iload (pc := 39) h dX5_add_39 rfl ?_
  refine r_iconst (pc := 41) (v := 2) h dX5_add_41 (by decide) ?_
  refine r_iload_n (pc := 42) h dX5_add_42 rfl ?_
  refine p_b hf (fun q9 e10 hf => ?_)
  refine r_cNi (pc := 43) (st := [.inl 2, .inl (u 1 1), .inr 1]) h [.inl l1] cs_X6_thickIn nm_X5_34 (c_X6_thickIn e10) ⟨rfl, rfl, Nat.le_of_ble_eq_true rfl, Nat.le_of_ble_eq_true rfl⟩ (Nat.le_of_ble_eq_true rfl) dX5_add_43 ?_
  refine p_b hf (fun q11 e12 hf => ?_)
  refine r_cVv (pc := 46) (k := 1) (st := []) h [.inl (u 1 1), .inl 2, .inl q9] cv_X5_setFact wm_X5_27 (c_X5_setFact e12) ⟨rfl, rfl, Nat.le_of_ble_eq_true rfl, Nat.le_of_ble_eq_true rfl⟩ hshX_1 rfl rfl (Nat.le_of_ble_eq_true rfl) dX5_add_46 ?_
  refine r_aload_n (pc := 49) h dX5_add_49 rfl ?_
  refine r_iload (pc := 50) h dX5_add_50 rfl ?_
  refine r_iconst (pc := 52) (v := 3) h dX5_add_52 (by decide) ?_
  refine r_iload_n (pc := 53) h dX5_add_53 rfl ?_
  refine p_b hf (fun q13 e14 hf => ?_)
  refine r_cNi (pc := 54) (st := [.inl 3, .inl (u 1 1), .inr 1]) h [.inl l2] cs_X6_onIn nm_X5_37 (c_X6_onIn e14) ⟨rfl, rfl, Nat.le_of_ble_eq_true rfl, Nat.le_of_ble_eq_true rfl⟩ (Nat.le_of_ble_eq_true rfl) dX5_add_54 ?_
  refine p_b hf (fun q15 e16 hf => ?_)
  refine r_cVv (pc := 57) (k := 1) (st := []) h [.inl (u 1 1), .inl 3, .inl q13] cv_X5_setFact wm_X5_27 (c_X5_setFact e16) ⟨rfl, rfl, Nat.le_of_ble_eq_true rfl, Nat.le_of_ble_eq_true rfl⟩ hshX_1 rfl rfl (Nat.le_of_ble_eq_true rfl) dX5_add_57 ?_
  refine r_aload_n (pc := 60) h dX5_add_60 rfl ?_
  refine r_iload (pc := 61) h dX5_add_61 rfl ?_
  refine r_iconst (pc := 63) (v := 4) h dX5_add_63 (by decide) ?_
  refine r_iload_n (pc := 64) h dX5_add_64 rfl ?_
  refine p_b hf (fun q17 e18 hf => ?_)
  refine r_cNi (pc := 65) (st := [.inl 4, .inl (u 1 1), .inr 1]) h [.inl l2] cs_X6_offIn nm_X5_40 (c_X6_offIn e18) ⟨rfl, rfl, Nat.le_of_ble_eq_true rfl, Nat.le_of_ble_eq_true rfl⟩ (Nat.le_of_ble_eq_true rfl) dX5_add_65 ?_
  refine p_b hf (fun q19 e20 hf => ?_)
  refine r_cVv (pc := 68) (k := 1) (st := []) h [.inl (u 1 1), .inl 4, .inl q17] cv_X5_setFact wm_X5_27 (c_X5_setFact e20) ⟨rfl, rfl, Nat.le_of_ble_eq_true rfl, Nat.le_of_ble_eq_true rfl⟩ hshX_1 rfl rfl (Nat.le_of_ble_eq_true rfl) dX5_add_68 ?_
  refine r_aload_n (pc := 71) h dX5_add_71 rfl ?_
  refine r_iload (pc := 72) h dX5_add_72 rfl ?_
  refine r_iconst (pc := 74) (v := 5) h dX5_add_74 (by decide) ?_
  refine r_iload_n (pc := 75) h dX5_add_75 rfl ?_
  refine p_b hf (fun q21 e22 hf => ?_)
  refine r_cNi (pc := 76) (st := [.inl 5, .inl (u 1 1), .inr 1]) h [.inl l1] cs_X6_nameIn nm_X5_43 (c_X6_nameIn e22) ⟨rfl, rfl, Nat.le_of_ble_eq_true rfl, Nat.le_of_ble_eq_true rfl⟩ (Nat.le_of_ble_eq_true rfl) dX5_add_76 ?_
  refine p_b hf (fun q23 e24 hf => ?_)
  refine r_cVv (pc := 79) (k := 1) (st := []) h [.inl (u 1 1), .inl 5, .inl q21] cv_X5_setFact wm_X5_27 (c_X5_setFact e24) ⟨rfl, rfl, Nat.le_of_ble_eq_true rfl, Nat.le_of_ble_eq_true rfl⟩ hshX_1 rfl rfl (Nat.le_of_ble_eq_true rfl) dX5_add_79 ?_
  refine r_aload_n (pc := 82) h dX5_add_82 rfl ?_
  refine r_iload (pc := 83) h dX5_add_83 rfl ?_
  refine r_bipush (pc := 85) (v := 6) h dX5_add_85 (by decide) ?_
  refine r_iload_n (pc := 87) h dX5_add_87 rfl ?_
  refine p_b hf (fun q25 e26 hf => ?_)
  refine r_cNi (pc := 88) (st := [.inl 6, .inl (u 1 1), .inr 1]) h [.inl l3] cs_X6_sizeIn nm_X5_46 (c_X6_sizeIn e26) ⟨rfl, rfl, Nat.le_of_ble_eq_true rfl, Nat.le_of_ble_eq_true rfl⟩ (Nat.le_of_ble_eq_true rfl) dX5_add_88 ?_
  refine p_b hf (fun q27 e28 hf => ?_)
  refine r_cVv (pc := 91) (k := 1) (st := []) h [.inl (u 1 1), .inl 6, .inl q25] cv_X5_setFact wm_X5_27 (c_X5_setFact e28) ⟨rfl, rfl, Nat.le_of_ble_eq_true rfl, Nat.le_of_ble_eq_true rfl⟩ hshX_1 rfl rfl (Nat.le_of_ble_eq_true rfl) dX5_add_91 ?_
  refine r_aload_n (pc := 94) h dX5_add_94 rfl ?_
  refine r_iload (pc := 95) h dX5_add_95 rfl ?_
  refine r_bipush (pc := 97) (v := 7) h dX5_add_97 (by decide) ?_
  refine r_iload_n (pc := 99) h dX5_add_99 rfl ?_
  refine p_b hf (fun q29 e30 hf => ?_)
  refine r_cNi (pc := 100) (st := [.inl 7, .inl (u 1 1), .inr 1]) h [.inl l3] cs_X6_spanIn nm_X5_49 (c_X6_spanIn e30) ⟨rfl, rfl, Nat.le_of_ble_eq_true rfl, Nat.le_of_ble_eq_true rfl⟩ (Nat.le_of_ble_eq_true rfl) dX5_add_100 ?_
  refine p_b hf (fun q31 e32 hf => ?_)
  refine r_cVv (pc := 103) (k := 1) (st := []) h [.inl (u 1 1), .inl 7, .inl q29] cv_X5_setFact wm_X5_27 (c_X5_setFact e32) ⟨rfl, rfl, Nat.le_of_ble_eq_true rfl, Nat.le_of_ble_eq_true rfl⟩ hshX_1 rfl rfl (Nat.le_of_ble_eq_true rfl) dX5_add_103 ?_
  refine r_aload_n (pc := 106) h dX5_add_106 rfl ?_
  refine r_iload (pc := 107) h dX5_add_107 rfl ?_
  refine r_iconst (pc := 109) (v := 0) h dX5_add_109 (by decide) ?_
  refine r_iconst (pc := 110) (v := 0) h dX5_add_110 (by decide) ?_
  refine p_b hf (fun q33 e34 hf => ?_)
  refine r_cVv (pc := 111) (k := 1) (st := []) h [.inl (u 1 1), .inl 0, .inl 0] cv_X5_place wm_X5_52 (c_X5_place e34) ⟨rfl, rfl, Nat.le_of_ble_eq_true rfl, Nat.le_of_ble_eq_true rfl⟩ hshX_1 rfl rfl (Nat.le_of_ble_eq_true rfl) dX5_add_111 ?_
  refine r_iload (pc := 114) h dX5_add_114 rfl ?_
  have hf := Option.some.inj hf
  subst hf
  exact hr 116 _ dX5_add_116
theorem c_X5_add {u : St} {l1 l2 l3 : Int32} {r : Int32 × St} (hf : f_X5_add u l1 l2 l3 = some r) : CtI shX yX5_add cX5_add 5 (some .int) rm_X5_add [.inr 1, .inl l1, .inl l2, .inl l3] u r.1 r.2 := ct_I (by decide +kernel) (Nat.le_of_ble_eq_true rfl) (fun K E h hr => w_X5_add_0 h hr _ _ _ _ hf)
set_option maxRecDepth 100000 in
set_option maxHeartbeats 4000000 in
theorem w_X6_piece_0 {K : Kx} {E : Ex} (h : Ok shX K E RX6 cX6_piece 4 rm_X6_piece) {r : Int32 × St} (hr : RetI shX K E cX6_piece 4 r.1 r.2) (u : St) (l1 l2 l3 : Int32) (hf : f_X6_piece u l1 l2 l3 = some r) : Vd shX K E 4 0 [some (.inr 0), some (.inl l1), some (.inl l2), some (.inl l3)] [] u := by
  refine r_iload_n (pc := 0) h dX6_piece_0 rfl ?_
  refine r_iload_n (pc := 1) h dX6_piece_1 rfl ?_
  refine r_iload_n (pc := 2) h dX6_piece_2 rfl ?_
  refine p_b hf (fun q1 e2 hf => ?_)
  refine r_cSi (pc := 3) (st := []) h [.inl l1, .inl l2, .inl l3] cs_X6_isPieceTold wm_X6_68 (c_X6_isPieceTold e2) ⟨rfl, rfl, Nat.le_of_ble_eq_true rfl, Nat.le_of_ble_eq_true rfl⟩ (Nat.le_of_ble_eq_true rfl) dX6_piece_3 ?_
  refine p_ite hf (fun hc3 hf => ?_) (fun hc3 hf => ?_)
  · refine r_if_ne (pc := 6) (tgt := 15) h dX6_piece_6 (by decide) (fun q => absurd hc3 q) (fun _ => ?_)
    refine r_aload_n (pc := 9) h dX6_piece_9 rfl ?_
    refine r_iconst (pc := 10) (v := 1) h dX6_piece_10 (by decide) ?_
    refine p_b hf (fun q11 e12 hf => ?_)
    refine r_cVi (pc := 11) (k := 0) (st := []) h [.inl 1] cv_X6_finding wm_X6_72 (c_X6_finding e12) ⟨rfl, rfl, Nat.le_of_ble_eq_true rfl, Nat.le_of_ble_eq_true rfl⟩ hshX_0 rfl rfl (Nat.le_of_ble_eq_true rfl) dX6_piece_11 ?_
    have hf := Option.some.inj hf
    subst hf
    exact hr 14 _ dX6_piece_14
  · refine r_if_ne (pc := 6) (tgt := 15) h dX6_piece_6 (by decide) (fun _ => ?_) (fun q => absurd q hc3)
    refine r_aload_n (pc := 15) h dX6_piece_15 rfl ?_
    refine gf_X6_10 (pc := 16) h dX6_piece_16 ?_
    refine p_b hf (fun q4 e5 hf => ?_)
    refine r_cVi (pc := 19) (k := 1) (st := []) h [] cv_X5_isFull wm_X6_76 (c_X5_isFull e5) ⟨rfl, rfl, Nat.le_of_ble_eq_true rfl, Nat.le_of_ble_eq_true rfl⟩ hshX_1 rfl rfl (Nat.le_of_ble_eq_true rfl) dX6_piece_19 ?_
    refine p_ite hf (fun hc6 hf => ?_) (fun hc6 hf => ?_)
    · refine r_if_eq (pc := 22) (tgt := 31) h dX6_piece_22 (by decide) (fun _ => ?_) (fun q => absurd hc6 q)
      refine r_aload_n (pc := 31) h dX6_piece_31 rfl ?_
      refine gf_X6_10 (pc := 32) h dX6_piece_32 ?_
      refine r_iload_n (pc := 35) h dX6_piece_35 rfl ?_
      refine r_iload_n (pc := 36) h dX6_piece_36 rfl ?_
      refine r_iload_n (pc := 37) h dX6_piece_37 rfl ?_
      refine p_b hf (fun q7 e8 hf => ?_)
      refine r_cVi (pc := 38) (k := 1) (st := []) h [.inl l1, .inl l2, .inl l3] cv_X5_add wm_X6_80 (c_X5_add e8) ⟨rfl, rfl, Nat.le_of_ble_eq_true rfl, Nat.le_of_ble_eq_true rfl⟩ hshX_1 rfl rfl (Nat.le_of_ble_eq_true rfl) dX6_piece_38 ?_
      have hf := Option.some.inj hf
      subst hf
      exact hr 41 _ dX6_piece_41
    · refine r_if_eq (pc := 22) (tgt := 31) h dX6_piece_22 (by decide) (fun q => absurd q hc6) (fun _ => ?_)
      refine r_aload_n (pc := 25) h dX6_piece_25 rfl ?_
      refine r_iconst (pc := 26) (v := 4) h dX6_piece_26 (by decide) ?_
      refine p_b hf (fun q9 e10 hf => ?_)
      refine r_cVi (pc := 27) (k := 0) (st := []) h [.inl 4] cv_X6_finding wm_X6_72 (c_X6_finding e10) ⟨rfl, rfl, Nat.le_of_ble_eq_true rfl, Nat.le_of_ble_eq_true rfl⟩ hshX_0 rfl rfl (Nat.le_of_ble_eq_true rfl) dX6_piece_27 ?_
      have hf := Option.some.inj hf
      subst hf
      exact hr 30 _ dX6_piece_30
theorem c_X6_piece {u : St} {l1 l2 l3 : Int32} {r : Int32 × St} (hf : f_X6_piece u l1 l2 l3 = some r) : CtI shX yX6_piece cX6_piece 4 (some .int) rm_X6_piece [.inr 0, .inl l1, .inl l2, .inl l3] u r.1 r.2 := ct_I (by decide +kernel) (Nat.le_of_ble_eq_true rfl) (fun K E h hr => w_X6_piece_0 h hr _ _ _ _ hf)
set_option maxRecDepth 100000 in
set_option maxHeartbeats 4000000 in
theorem w_X5_fact_0 {K : Kx} {E : Ex} (h : Ok shX K E RX5 cX5_fact 3 rm_X5_fact) {r : Int32} {u : St} (hr : RetI shX K E cX5_fact 3 r u) (l1 l2 : Int32) (hf : f_X5_fact u l1 l2 = some r) : Vd shX K E 3 0 [some (.inr 1), some (.inl l1), some (.inl l2)] [] u := by
  refine r_aload_n (pc := 0) h dX5_fact_0 rfl ?_
  refine r_iload_n (pc := 1) h dX5_fact_1 rfl ?_
  refine p_b hf (fun q1 e2 hf => ?_)
  refine r_cVi (pc := 2) (k := 1) (st := []) h [.inl l1] cv_X5_has wm_X5_19 (c_X5_has e2) ⟨rfl, rfl, Nat.le_of_ble_eq_true rfl, Nat.le_of_ble_eq_true rfl⟩ hshX_1 rfl rfl (Nat.le_of_ble_eq_true rfl) dX5_fact_2 ?_
  refine p_ite hf (fun hc3 hf => ?_) (fun hc3 hf => ?_)
  · refine r_if_eq (pc := 5) (tgt := 32) h dX5_fact_5 (by decide) (fun _ => ?_) (fun q => absurd hc3 q)
    refine r_iconst (pc := 32) (v := (-1)) h dX5_fact_32 (by decide) ?_
    have hf := Option.some.inj hf
    subst hf
    exact hr 33 _ dX5_fact_33
  · refine r_if_eq (pc := 5) (tgt := 32) h dX5_fact_5 (by decide) (fun q => absurd q hc3) (fun _ => ?_)
    refine r_iload_n (pc := 8) h dX5_fact_8 rfl ?_
    refine p_ite hf (fun hc4 hf => ?_) (fun hc4 hf => ?_)
    · refine r_if_lt (pc := 9) (tgt := 32) h dX5_fact_9 (by decide) (fun _ => ?_) (fun q => absurd hc4 q)
      refine r_iconst (pc := 32) (v := (-1)) h dX5_fact_32 (by decide) ?_
      have hf := Option.some.inj hf
      subst hf
      exact hr 33 _ dX5_fact_33
    · refine r_if_lt (pc := 9) (tgt := 32) h dX5_fact_9 (by decide) (fun q => absurd q hc4) (fun _ => ?_)
      refine r_iload_n (pc := 12) h dX5_fact_12 rfl ?_
      refine r_bipush (pc := 13) (v := 10) h dX5_fact_13 (by decide) ?_
      refine p_ite hf (fun hc5 hf => ?_) (fun hc5 hf => ?_)
      · refine r_icmp_ge (pc := 15) (tgt := 32) h dX5_fact_15 (by decide) (fun _ => ?_) (fun q => absurd hc5 q)
        refine r_iconst (pc := 32) (v := (-1)) h dX5_fact_32 (by decide) ?_
        have hf := Option.some.inj hf
        subst hf
        exact hr 33 _ dX5_fact_33
      · refine r_icmp_ge (pc := 15) (tgt := 32) h dX5_fact_15 (by decide) (fun q => absurd q hc5) (fun _ => ?_)
        refine r_aload_n (pc := 18) h dX5_fact_18 rfl ?_
        refine gf_X5_9 (pc := 19) h dX5_fact_19 ?_
        refine r_iload_n (pc := 22) h dX5_fact_22 rfl ?_
        refine r_bipush (pc := 23) (v := 10) h dX5_fact_23 (by decide) ?_
        refine r_imul (pc := 25) h dX5_fact_25 ?_
        refine r_iload_n (pc := 26) h dX5_fact_26 rfl ?_
        refine r_iadd (pc := 27) h dX5_fact_27 ?_
        refine p_g hf (fun hi6 hf => ?_)
        refine r_iald (pc := 28) (k := 2) (v := (u 2 ((l1 * 10) + l2).toNatClampNeg)) h hshX_2 hi6 rfl dX5_fact_28 ?_
        refine r_goto (pc := 29) (tgt := 33) h dX5_fact_29 (by decide) ?_
        have hf := Option.some.inj hf
        subst hf
        exact hr 33 _ dX5_fact_33
theorem c_X5_fact {u : St} {l1 l2 : Int32} {r : Int32} (hf : f_X5_fact u l1 l2 = some r) : CtI shX yX5_fact cX5_fact 3 (some .int) rm_X5_fact [.inr 1, .inl l1, .inl l2] u r u := ct_I (by decide +kernel) (Nat.le_of_ble_eq_true rfl) (fun K E h hr => w_X5_fact_0 h hr _ _ hf)
set_option maxRecDepth 100000 in
set_option maxHeartbeats 4000000 in
theorem w_X6_as_0 {K : Kx} {E : Ex} (h : Ok shX K E RX6 cX6_as 3 rm_X6_as) {r : Int32 × St} (hr : RetI shX K E cX6_as 3 r.1 r.2) (u : St) (l1 l2 : Int32) (hf : f_X6_as u l1 l2 = some r) : Vd shX K E 3 0 [some (.inr 0), some (.inl l1), some (.inl l2)] [] u := by
  refine r_aload_n (pc := 0) h dX6_as_0 rfl ?_
  refine gf_X6_10 (pc := 1) h dX6_as_1 ?_
  refine r_iload_n (pc := 4) h dX6_as_4 rfl ?_
  refine p_b hf (fun q1 e2 hf => ?_)
  refine r_cVi (pc := 5) (k := 1) (st := []) h [.inl l1] cv_X5_has wm_X6_84 (c_X5_has e2) ⟨rfl, rfl, Nat.le_of_ble_eq_true rfl, Nat.le_of_ble_eq_true rfl⟩ hshX_1 rfl rfl (Nat.le_of_ble_eq_true rfl) dX6_as_5 ?_
  refine p_ite hf (fun hc3 hf => ?_) (fun hc3 hf => ?_)
  · refine r_if_eq (pc := 8) (tgt := 20) h dX6_as_8 (by decide) (fun _ => ?_) (fun q => absurd hc3 q)
    refine r_aload_n (pc := 20) h dX6_as_20 rfl ?_
    refine r_iconst (pc := 21) (v := 1) h dX6_as_21 (by decide) ?_
    refine p_b hf (fun q4 e5 hf => ?_)
    refine r_cVi (pc := 22) (k := 0) (st := []) h [.inl 1] cv_X6_finding wm_X6_72 (c_X6_finding e5) ⟨rfl, rfl, Nat.le_of_ble_eq_true rfl, Nat.le_of_ble_eq_true rfl⟩ hshX_0 rfl rfl (Nat.le_of_ble_eq_true rfl) dX6_as_22 ?_
    have hf := Option.some.inj hf
    subst hf
    exact hr 25 _ dX6_as_25
  · refine r_if_eq (pc := 8) (tgt := 20) h dX6_as_8 (by decide) (fun q => absurd q hc3) (fun _ => ?_)
    refine r_iload_n (pc := 11) h dX6_as_11 rfl ?_
    refine r_iconst (pc := 12) (v := 0) h dX6_as_12 (by decide) ?_
    refine r_iconst (pc := 13) (v := 2) h dX6_as_13 (by decide) ?_
    refine p_b hf (fun q6 e7 hf => ?_)
    refine r_cSi (pc := 14) (st := []) h [.inl l2, .inl 0, .inl 2] cs_X6_isWithin wm_X6_88 (c_X6_isWithin e7) ⟨rfl, rfl, Nat.le_of_ble_eq_true rfl, Nat.le_of_ble_eq_true rfl⟩ (Nat.le_of_ble_eq_true rfl) dX6_as_14 ?_
    refine p_ite hf (fun hc8 hf => ?_) (fun hc8 hf => ?_)
    · refine r_if_ne (pc := 17) (tgt := 26) h dX6_as_17 (by decide) (fun q => absurd hc8 q) (fun _ => ?_)
      refine r_aload_n (pc := 20) h dX6_as_20 rfl ?_
      refine r_iconst (pc := 21) (v := 1) h dX6_as_21 (by decide) ?_
      refine p_b hf (fun q19 e20 hf => ?_)
      refine r_cVi (pc := 22) (k := 0) (st := []) h [.inl 1] cv_X6_finding wm_X6_72 (c_X6_finding e20) ⟨rfl, rfl, Nat.le_of_ble_eq_true rfl, Nat.le_of_ble_eq_true rfl⟩ hshX_0 rfl rfl (Nat.le_of_ble_eq_true rfl) dX6_as_22 ?_
      have hf := Option.some.inj hf
      subst hf
      exact hr 25 _ dX6_as_25
    · refine r_if_ne (pc := 17) (tgt := 26) h dX6_as_17 (by decide) (fun _ => ?_) (fun q => absurd q hc8)
      refine r_iload_n (pc := 26) h dX6_as_26 rfl ?_
      refine p_ite hf (fun hc9 hf => ?_) (fun hc9 hf => ?_)
      · refine r_if_eq (pc := 27) (tgt := 49) h dX6_as_27 (by decide) (fun _ => ?_) (fun q => absurd hc9 q)
        refine r_aload_n (pc := 49) h dX6_as_49 rfl ?_
        refine gf_X6_10 (pc := 50) h dX6_as_50 ?_
        refine r_iload_n (pc := 53) h dX6_as_53 rfl ?_
        refine r_iconst (pc := 54) (v := 1) h dX6_as_54 (by decide) ?_
        refine p_b hf (fun q10 e11 hf => ?_)
        refine r_cVi (pc := 55) (k := 1) (st := []) h [.inl l1, .inl 1] cv_X5_fact wm_X6_91 (c_X5_fact e11) ⟨rfl, rfl, Nat.le_of_ble_eq_true rfl, Nat.le_of_ble_eq_true rfl⟩ hshX_1 rfl rfl (Nat.le_of_ble_eq_true rfl) dX6_as_55 ?_
        have hf := Option.some.inj hf
        subst hf
        exact hr 58 _ dX6_as_58
      · refine r_if_eq (pc := 27) (tgt := 49) h dX6_as_27 (by decide) (fun q => absurd q hc9) (fun _ => ?_)
        refine r_aload_n (pc := 30) h dX6_as_30 rfl ?_
        refine gf_X6_10 (pc := 31) h dX6_as_31 ?_
        refine r_iload_n (pc := 34) h dX6_as_34 rfl ?_
        refine r_iconst (pc := 35) (v := 0) h dX6_as_35 (by decide) ?_
        refine p_b hf (fun q12 e13 hf => ?_)
        refine r_cVi (pc := 36) (k := 1) (st := []) h [.inl l1, .inl 0] cv_X5_fact wm_X6_91 (c_X5_fact e13) ⟨rfl, rfl, Nat.le_of_ble_eq_true rfl, Nat.le_of_ble_eq_true rfl⟩ hshX_1 rfl rfl (Nat.le_of_ble_eq_true rfl) dX6_as_36 ?_
        refine r_iload_n (pc := 39) h dX6_as_39 rfl ?_
        refine p_ite hf (fun hc14 hf => ?_) (fun hc14 hf => ?_)
        · refine r_icmp_eq (pc := 40) (tgt := 49) h dX6_as_40 (by decide) (fun _ => ?_) (fun q => absurd hc14 q)
          refine r_aload_n (pc := 49) h dX6_as_49 rfl ?_
          refine gf_X6_10 (pc := 50) h dX6_as_50 ?_
          refine r_iload_n (pc := 53) h dX6_as_53 rfl ?_
          refine r_iconst (pc := 54) (v := 1) h dX6_as_54 (by decide) ?_
          refine p_b hf (fun q15 e16 hf => ?_)
          refine r_cVi (pc := 55) (k := 1) (st := []) h [.inl l1, .inl 1] cv_X5_fact wm_X6_91 (c_X5_fact e16) ⟨rfl, rfl, Nat.le_of_ble_eq_true rfl, Nat.le_of_ble_eq_true rfl⟩ hshX_1 rfl rfl (Nat.le_of_ble_eq_true rfl) dX6_as_55 ?_
          have hf := Option.some.inj hf
          subst hf
          exact hr 58 _ dX6_as_58
        · refine r_icmp_eq (pc := 40) (tgt := 49) h dX6_as_40 (by decide) (fun q => absurd q hc14) (fun _ => ?_)
          refine r_aload_n (pc := 43) h dX6_as_43 rfl ?_
          refine r_iconst (pc := 44) (v := 5) h dX6_as_44 (by decide) ?_
          refine p_b hf (fun q17 e18 hf => ?_)
          refine r_cVi (pc := 45) (k := 0) (st := []) h [.inl 5] cv_X6_finding wm_X6_72 (c_X6_finding e18) ⟨rfl, rfl, Nat.le_of_ble_eq_true rfl, Nat.le_of_ble_eq_true rfl⟩ hshX_0 rfl rfl (Nat.le_of_ble_eq_true rfl) dX6_as_45 ?_
          have hf := Option.some.inj hf
          subst hf
          exact hr 48 _ dX6_as_48
theorem c_X6_as {u : St} {l1 l2 : Int32} {r : Int32 × St} (hf : f_X6_as u l1 l2 = some r) : CtI shX yX6_as cX6_as 3 (some .int) rm_X6_as [.inr 0, .inl l1, .inl l2] u r.1 r.2 := ct_I (by decide +kernel) (Nat.le_of_ble_eq_true rfl) (fun K E h hr => w_X6_as_0 h hr _ _ _ hf)
set_option maxRecDepth 100000 in
set_option maxHeartbeats 4000000 in
theorem w_X6_about_0 {K : Kx} {E : Ex} (h : Ok shX K E RX6 cX6_about 3 rm_X6_about) {r : Int32 × St} (hr : RetI shX K E cX6_about 3 r.1 r.2) (u : St) (l1 l2 : Int32) (hf : f_X6_about u l1 l2 = some r) : Vd shX K E 3 0 [some (.inr 0), some (.inl l1), some (.inl l2)] [] u := by
  refine r_aload_n (pc := 0) h dX6_about_0 rfl ?_
  refine gf_X6_10 (pc := 1) h dX6_about_1 ?_
  refine r_iload_n (pc := 4) h dX6_about_4 rfl ?_
  refine p_b hf (fun q1 e2 hf => ?_)
  refine r_cVi (pc := 5) (k := 1) (st := []) h [.inl l1] cv_X5_has wm_X6_84 (c_X5_has e2) ⟨rfl, rfl, Nat.le_of_ble_eq_true rfl, Nat.le_of_ble_eq_true rfl⟩ hshX_1 rfl rfl (Nat.le_of_ble_eq_true rfl) dX6_about_5 ?_
  refine p_ite hf (fun hc3 hf => ?_) (fun hc3 hf => ?_)
  · refine r_if_eq (pc := 8) (tgt := 21) h dX6_about_8 (by decide) (fun _ => ?_) (fun q => absurd hc3 q)
    refine r_aload_n (pc := 21) h dX6_about_21 rfl ?_
    refine r_iconst (pc := 22) (v := 1) h dX6_about_22 (by decide) ?_
    refine p_b hf (fun q4 e5 hf => ?_)
    refine r_cVi (pc := 23) (k := 0) (st := []) h [.inl 1] cv_X6_finding wm_X6_72 (c_X6_finding e5) ⟨rfl, rfl, Nat.le_of_ble_eq_true rfl, Nat.le_of_ble_eq_true rfl⟩ hshX_0 rfl rfl (Nat.le_of_ble_eq_true rfl) dX6_about_23 ?_
    have hf := Option.some.inj hf
    subst hf
    exact hr 26 _ dX6_about_26
  · refine r_if_eq (pc := 8) (tgt := 21) h dX6_about_8 (by decide) (fun q => absurd q hc3) (fun _ => ?_)
    refine r_iload_n (pc := 11) h dX6_about_11 rfl ?_
    refine r_iconst (pc := 12) (v := 0) h dX6_about_12 (by decide) ?_
    refine r_bipush (pc := 13) (v := 9) h dX6_about_13 (by decide) ?_
    refine p_b hf (fun q6 e7 hf => ?_)
    refine r_cSi (pc := 15) (st := []) h [.inl l2, .inl 0, .inl 9] cs_X6_isWithin wm_X6_88 (c_X6_isWithin e7) ⟨rfl, rfl, Nat.le_of_ble_eq_true rfl, Nat.le_of_ble_eq_true rfl⟩ (Nat.le_of_ble_eq_true rfl) dX6_about_15 ?_
    refine p_ite hf (fun hc8 hf => ?_) (fun hc8 hf => ?_)
    · refine r_if_ne (pc := 18) (tgt := 27) h dX6_about_18 (by decide) (fun q => absurd hc8 q) (fun _ => ?_)
      refine r_aload_n (pc := 21) h dX6_about_21 rfl ?_
      refine r_iconst (pc := 22) (v := 1) h dX6_about_22 (by decide) ?_
      refine p_b hf (fun q11 e12 hf => ?_)
      refine r_cVi (pc := 23) (k := 0) (st := []) h [.inl 1] cv_X6_finding wm_X6_72 (c_X6_finding e12) ⟨rfl, rfl, Nat.le_of_ble_eq_true rfl, Nat.le_of_ble_eq_true rfl⟩ hshX_0 rfl rfl (Nat.le_of_ble_eq_true rfl) dX6_about_23 ?_
      have hf := Option.some.inj hf
      subst hf
      exact hr 26 _ dX6_about_26
    · refine r_if_ne (pc := 18) (tgt := 27) h dX6_about_18 (by decide) (fun _ => ?_) (fun q => absurd q hc8)
      refine r_aload_n (pc := 27) h dX6_about_27 rfl ?_
      refine gf_X6_10 (pc := 28) h dX6_about_28 ?_
      refine r_iload_n (pc := 31) h dX6_about_31 rfl ?_
      refine r_iload_n (pc := 32) h dX6_about_32 rfl ?_
      refine p_b hf (fun q9 e10 hf => ?_)
      refine r_cVi (pc := 33) (k := 1) (st := []) h [.inl l1, .inl l2] cv_X5_fact wm_X6_91 (c_X5_fact e10) ⟨rfl, rfl, Nat.le_of_ble_eq_true rfl, Nat.le_of_ble_eq_true rfl⟩ hshX_1 rfl rfl (Nat.le_of_ble_eq_true rfl) dX6_about_33 ?_
      have hf := Option.some.inj hf
      subst hf
      exact hr 36 _ dX6_about_36
theorem c_X6_about {u : St} {l1 l2 : Int32} {r : Int32 × St} (hf : f_X6_about u l1 l2 = some r) : CtI shX yX6_about cX6_about 3 (some .int) rm_X6_about [.inr 0, .inl l1, .inl l2] u r.1 r.2 := ct_I (by decide +kernel) (Nat.le_of_ble_eq_true rfl) (fun K E h hr => w_X6_about_0 h hr _ _ _ hf)
set_option maxRecDepth 100000 in
set_option maxHeartbeats 4000000 in
theorem w_X2_has_0 {K : Kx} {E : Ex} (h : Ok shX K E RX2 cX2_has 2 rm_X2_has) {r : Int32} {u : St} (hr : RetZ shX K E cX2_has 2 r u) (l1 : Int32) (hf : f_X2_has u l1 = some r) : Vd shX K E 2 0 [some (.inr 3), some (.inl l1)] [] u := by
  refine r_iload_n (pc := 0) h dX2_has_0 rfl ?_
  refine p_ite hf (fun hc1 hf => ?_) (fun hc1 hf => ?_)
  · refine r_if_lt (pc := 1) (tgt := 14) h dX2_has_1 (by decide) (fun _ => ?_) (fun q => absurd hc1 q)
    refine r_iconst (pc := 14) (v := 0) h dX2_has_14 (by decide) ?_
    have hf := Option.some.inj hf
    subst hf
    exact hr 15 _ dX2_has_15 z_0
  · refine r_if_lt (pc := 1) (tgt := 14) h dX2_has_1 (by decide) (fun q => absurd q hc1) (fun _ => ?_)
    refine r_iload_n (pc := 4) h dX2_has_4 rfl ?_
    refine r_bipush (pc := 5) (v := 12) h dX2_has_5 (by decide) ?_
    refine p_ite hf (fun hc2 hf => ?_) (fun hc2 hf => ?_)
    · refine r_icmp_ge (pc := 7) (tgt := 14) h dX2_has_7 (by decide) (fun _ => ?_) (fun q => absurd hc2 q)
      refine r_iconst (pc := 14) (v := 0) h dX2_has_14 (by decide) ?_
      have hf := Option.some.inj hf
      subst hf
      exact hr 15 _ dX2_has_15 z_0
    · refine r_icmp_ge (pc := 7) (tgt := 14) h dX2_has_7 (by decide) (fun q => absurd q hc2) (fun _ => ?_)
      refine r_iconst (pc := 10) (v := 1) h dX2_has_10 (by decide) ?_
      refine r_goto (pc := 11) (tgt := 15) h dX2_has_11 (by decide) ?_
      have hf := Option.some.inj hf
      subst hf
      exact hr 15 _ dX2_has_15 z_1
theorem c_X2_has {u : St} {l1 : Int32} {r : Int32} (hf : f_X2_has u l1 = some r) : CtI shX yX2_has cX2_has 2 (some .boolean) rm_X2_has [.inr 3, .inl l1] u r u := ct_Z (by decide +kernel) (Nat.le_of_ble_eq_true rfl) (fun K E h hr => w_X2_has_0 h hr _ hf)
set_option maxRecDepth 100000 in
set_option maxHeartbeats 4000000 in
theorem w_X2_sizeOf_0 {K : Kx} {E : Ex} (h : Ok shX K E RX2 cX2_sizeOf 2 rm_X2_sizeOf) {r : Int32} {u : St} (hr : RetI shX K E cX2_sizeOf 2 r u) (l1 : Int32) (hf : f_X2_sizeOf u l1 = some r) : Vd shX K E 2 0 [some (.inr 3), some (.inl l1)] [] u := by
  refine r_aload_n (pc := 0) h dX2_sizeOf_0 rfl ?_
  refine r_iload_n (pc := 1) h dX2_sizeOf_1 rfl ?_
  refine p_b hf (fun q1 e2 hf => ?_)
  refine r_cVi (pc := 2) (k := 3) (st := []) h [.inl l1] cv_X2_has wm_X2_21 (c_X2_has e2) ⟨rfl, rfl, Nat.le_of_ble_eq_true rfl, Nat.le_of_ble_eq_true rfl⟩ hshX_3 rfl rfl (Nat.le_of_ble_eq_true rfl) dX2_sizeOf_2 ?_
  refine p_ite hf (fun hc3 hf => ?_) (fun hc3 hf => ?_)
  · refine r_if_eq (pc := 5) (tgt := 17) h dX2_sizeOf_5 (by decide) (fun _ => ?_) (fun q => absurd hc3 q)
    refine r_iconst (pc := 17) (v := 0) h dX2_sizeOf_17 (by decide) ?_
    have hf := Option.some.inj hf
    subst hf
    exact hr 18 _ dX2_sizeOf_18
  · refine r_if_eq (pc := 5) (tgt := 17) h dX2_sizeOf_5 (by decide) (fun q => absurd q hc3) (fun _ => ?_)
    refine r_aload_n (pc := 8) h dX2_sizeOf_8 rfl ?_
    refine gf_X2_15 (pc := 9) h dX2_sizeOf_9 ?_
    refine r_iload_n (pc := 12) h dX2_sizeOf_12 rfl ?_
    refine p_g hf (fun hi4 hf => ?_)
    refine r_iald (pc := 13) (k := 5) (v := (u 5 l1.toNatClampNeg)) h hshX_5 hi4 rfl dX2_sizeOf_13 ?_
    refine r_goto (pc := 14) (tgt := 18) h dX2_sizeOf_14 (by decide) ?_
    have hf := Option.some.inj hf
    subst hf
    exact hr 18 _ dX2_sizeOf_18
theorem c_X2_sizeOf {u : St} {l1 : Int32} {r : Int32} (hf : f_X2_sizeOf u l1 = some r) : CtI shX yX2_sizeOf cX2_sizeOf 2 (some .int) rm_X2_sizeOf [.inr 3, .inl l1] u r u := ct_I (by decide +kernel) (Nat.le_of_ble_eq_true rfl) (fun K E h hr => w_X2_sizeOf_0 h hr _ hf)
set_option maxRecDepth 100000 in
set_option maxHeartbeats 4000000 in
theorem w_X2_at_0 {K : Kx} {E : Ex} (h : Ok shX K E RX2 cX2_at 3 rm_X2_at) {r : Int32} {u : St} (hr : RetI shX K E cX2_at 3 r u) (l1 l2 : Int32) (hf : f_X2_at u l1 l2 = some r) : Vd shX K E 3 0 [some (.inr 3), some (.inl l1), some (.inl l2)] [] u := by
  refine r_aload_n (pc := 0) h dX2_at_0 rfl ?_
  refine r_iload_n (pc := 1) h dX2_at_1 rfl ?_
  refine p_b hf (fun q1 e2 hf => ?_)
  refine r_cVi (pc := 2) (k := 3) (st := []) h [.inl l1] cv_X2_has wm_X2_21 (c_X2_has e2) ⟨rfl, rfl, Nat.le_of_ble_eq_true rfl, Nat.le_of_ble_eq_true rfl⟩ hshX_3 rfl rfl (Nat.le_of_ble_eq_true rfl) dX2_at_2 ?_
  refine p_ite hf (fun hc3 hf => ?_) (fun hc3 hf => ?_)
  · refine r_if_eq (pc := 5) (tgt := 42) h dX2_at_5 (by decide) (fun _ => ?_) (fun q => absurd hc3 q)
    refine r_iconst (pc := 42) (v := (-1)) h dX2_at_42 (by decide) ?_
    have hf := Option.some.inj hf
    subst hf
    exact hr 43 _ dX2_at_43
  · refine r_if_eq (pc := 5) (tgt := 42) h dX2_at_5 (by decide) (fun q => absurd q hc3) (fun _ => ?_)
    refine r_iload_n (pc := 8) h dX2_at_8 rfl ?_
    refine p_ite hf (fun hc4 hf => ?_) (fun hc4 hf => ?_)
    · refine r_if_lt (pc := 9) (tgt := 42) h dX2_at_9 (by decide) (fun _ => ?_) (fun q => absurd hc4 q)
      refine r_iconst (pc := 42) (v := (-1)) h dX2_at_42 (by decide) ?_
      have hf := Option.some.inj hf
      subst hf
      exact hr 43 _ dX2_at_43
    · refine r_if_lt (pc := 9) (tgt := 42) h dX2_at_9 (by decide) (fun q => absurd q hc4) (fun _ => ?_)
      refine r_iload_n (pc := 12) h dX2_at_12 rfl ?_
      refine r_bipush (pc := 13) (v := 8) h dX2_at_13 (by decide) ?_
      refine p_ite hf (fun hc5 hf => ?_) (fun hc5 hf => ?_)
      · refine r_icmp_ge (pc := 15) (tgt := 42) h dX2_at_15 (by decide) (fun _ => ?_) (fun q => absurd hc5 q)
        refine r_iconst (pc := 42) (v := (-1)) h dX2_at_42 (by decide) ?_
        have hf := Option.some.inj hf
        subst hf
        exact hr 43 _ dX2_at_43
      · refine r_icmp_ge (pc := 15) (tgt := 42) h dX2_at_15 (by decide) (fun q => absurd q hc5) (fun _ => ?_)
        refine r_iload_n (pc := 18) h dX2_at_18 rfl ?_
        refine r_aload_n (pc := 19) h dX2_at_19 rfl ?_
        refine gf_X2_15 (pc := 20) h dX2_at_20 ?_
        refine r_iload_n (pc := 23) h dX2_at_23 rfl ?_
        refine p_g hf (fun hi6 hf => ?_)
        refine r_iald (pc := 24) (k := 5) (v := (u 5 l1.toNatClampNeg)) h hshX_5 hi6 rfl dX2_at_24 ?_
        refine p_ite hf (fun hc7 hf => ?_) (fun hc7 hf => ?_)
        · refine r_icmp_ge (pc := 25) (tgt := 42) h dX2_at_25 (by decide) (fun _ => ?_) (fun q => absurd hc7 q)
          refine r_iconst (pc := 42) (v := (-1)) h dX2_at_42 (by decide) ?_
          have hf := Option.some.inj hf
          subst hf
          exact hr 43 _ dX2_at_43
        · refine r_icmp_ge (pc := 25) (tgt := 42) h dX2_at_25 (by decide) (fun q => absurd q hc7) (fun _ => ?_)
          refine r_aload_n (pc := 28) h dX2_at_28 rfl ?_
          refine gf_X2_9 (pc := 29) h dX2_at_29 ?_
          refine r_iload_n (pc := 32) h dX2_at_32 rfl ?_
          refine r_bipush (pc := 33) (v := 8) h dX2_at_33 (by decide) ?_
          refine r_imul (pc := 35) h dX2_at_35 ?_
          refine r_iload_n (pc := 36) h dX2_at_36 rfl ?_
          refine r_iadd (pc := 37) h dX2_at_37 ?_
          refine p_g hf (fun hi8 hf => ?_)
          refine r_iald (pc := 38) (k := 4) (v := (u 4 ((l1 * 8) + l2).toNatClampNeg)) h hshX_4 hi8 rfl dX2_at_38 ?_
          refine r_goto (pc := 39) (tgt := 43) h dX2_at_39 (by decide) ?_
          have hf := Option.some.inj hf
          subst hf
          exact hr 43 _ dX2_at_43
theorem c_X2_at {u : St} {l1 l2 : Int32} {r : Int32} (hf : f_X2_at u l1 l2 = some r) : CtI shX yX2_at cX2_at 3 (some .int) rm_X2_at [.inr 3, .inl l1, .inl l2] u r u := ct_I (by decide +kernel) (Nat.le_of_ble_eq_true rfl) (fun K E h hr => w_X2_at_0 h hr _ _ hf)
set_option maxRecDepth 100000 in
set_option maxHeartbeats 4000000 in
theorem w_X2_indexOf_9 {K : Kx} {E : Ex} (h : Ok shX K E RX2 cX2_indexOf 5 rm_X2_indexOf) {r : Int32} {u : St} (hr : RetI shX K E cX2_indexOf 5 r u) : ∀ (n : Nat) (l1 l2 l3 l4 : Int32), f_X2_indexOf_9 u n l1 l2 l3 l4 = some r → Vd shX K E 5 9 [some (.inr 3), some (.inl l1), some (.inl l2), some (.inl l3), some (.inl l4)] [] u := by
  intro n
  induction n with
  | zero => intro l1 l2 l3 l4 hf; cases hf
  | succ n ih =>
    intro l1 l2 l3 l4 hf
    refine r_iload (pc := 9) h dX2_indexOf_9 rfl ?_
    refine r_iload_n (pc := 11) h dX2_indexOf_11 rfl ?_
    refine p_ite hf (fun hc1 hf => ?_) (fun hc1 hf => ?_)
    · refine r_icmp_ge (pc := 12) (tgt := 35) h dX2_indexOf_12 (by decide) (fun _ => ?_) (fun q => absurd hc1 q)
      refine r_iconst (pc := 35) (v := (-1)) h dX2_indexOf_35 (by decide) ?_
      have hf := Option.some.inj hf
      subst hf
      exact hr 36 _ dX2_indexOf_36
    · refine r_icmp_ge (pc := 12) (tgt := 35) h dX2_indexOf_12 (by decide) (fun q => absurd q hc1) (fun _ => ?_)
      refine r_aload_n (pc := 15) h dX2_indexOf_15 rfl ?_
      refine r_iload_n (pc := 16) h dX2_indexOf_16 rfl ?_
      refine r_iload (pc := 17) h dX2_indexOf_17 rfl ?_
      refine p_b hf (fun q2 e3 hf => ?_)
      refine r_cVi (pc := 19) (k := 3) (st := []) h [.inl l1, .inl l4] cv_X2_at wm_X2_29 (c_X2_at e3) ⟨rfl, rfl, Nat.le_of_ble_eq_true rfl, Nat.le_of_ble_eq_true rfl⟩ hshX_3 rfl rfl (Nat.le_of_ble_eq_true rfl) dX2_indexOf_19 ?_
      refine r_iload_n (pc := 22) h dX2_indexOf_22 rfl ?_
      refine p_ite hf (fun hc4 hf => ?_) (fun hc4 hf => ?_)
      · refine r_icmp_ne (pc := 23) (tgt := 29) h dX2_indexOf_23 (by decide) (fun q => absurd hc4 q) (fun _ => ?_)
        refine r_iload (pc := 26) h dX2_indexOf_26 rfl ?_
        have hf := Option.some.inj hf
        subst hf
        exact hr 28 _ dX2_indexOf_28
      · refine r_icmp_ne (pc := 23) (tgt := 29) h dX2_indexOf_23 (by decide) (fun _ => ?_) (fun q => absurd q hc4)
        refine r_iinc (pc := 29) (v := (l4 + 1)) (L' := [some (.inr 3), some (.inl l1), some (.inl l2), some (.inl l3), some (.inl (l4 + 1))]) h dX2_indexOf_29 rfl rfl (by decide) rfl ?_
        refine r_goto (pc := 32) (tgt := 9) h dX2_indexOf_32 (by decide) ?_
        exact ih _ _ _ _ hf
set_option maxRecDepth 100000 in
set_option maxHeartbeats 4000000 in
theorem w_X2_indexOf_0 {K : Kx} {E : Ex} (h : Ok shX K E RX2 cX2_indexOf 5 rm_X2_indexOf) {r : Int32} {u : St} (hr : RetI shX K E cX2_indexOf 5 r u) (l1 l2 : Int32) (hf : f_X2_indexOf u l1 l2 = some r) : Vd shX K E 5 0 [some (.inr 3), some (.inl l1), some (.inl l2), none, none] [] u := by
  refine r_aload_n (pc := 0) h dX2_indexOf_0 rfl ?_
  refine r_iload_n (pc := 1) h dX2_indexOf_1 rfl ?_
  refine p_b hf (fun q5 e6 hf => ?_)
  refine r_cVi (pc := 2) (k := 3) (st := []) h [.inl l1] cv_X2_sizeOf wm_X2_25 (c_X2_sizeOf e6) ⟨rfl, rfl, Nat.le_of_ble_eq_true rfl, Nat.le_of_ble_eq_true rfl⟩ hshX_3 rfl rfl (Nat.le_of_ble_eq_true rfl) dX2_indexOf_2 ?_
  refine r_istore_n (pc := 5) (L' := [some (.inr 3), some (.inl l1), some (.inl l2), some (.inl q5), none]) h dX2_indexOf_5 (by decide) rfl ?_
  refine r_iconst (pc := 6) (v := 0) h dX2_indexOf_6 (by decide) ?_
  refine r_istore (pc := 7) (L' := [some (.inr 3), some (.inl l1), some (.inl l2), some (.inl q5), some (.inl 0)]) h dX2_indexOf_7 (by decide) rfl ?_
  exact w_X2_indexOf_9 h hr FU _ _ _ _ hf
theorem c_X2_indexOf {u : St} {l1 l2 : Int32} {r : Int32} (hf : f_X2_indexOf u l1 l2 = some r) : CtI shX yX2_indexOf cX2_indexOf 5 (some .int) rm_X2_indexOf [.inr 3, .inl l1, .inl l2] u r u := ct_I (by decide +kernel) (Nat.le_of_ble_eq_true rfl) (fun K E h hr => w_X2_indexOf_0 h hr _ _ hf)
set_option maxRecDepth 100000 in
set_option maxHeartbeats 4000000 in
theorem w_X2_noteLooksWith_0 {K : Kx} {E : Ex} (h : Ok shX K E RX2 cX2_noteLooksWith 3 rm_X2_noteLooksWith) {r : St} (hr : RetV shX K E cX2_noteLooksWith 3 r) (u : St) (l1 l2 : Int32) (hf : f_X2_noteLooksWith u l1 l2 = some r) : Vd shX K E 3 0 [some (.inr 3), some (.inl l1), some (.inl l2)] [] u := by
  refine r_iload_n (pc := 0) h dX2_noteLooksWith_0 rfl ?_
  refine r_iconst (pc := 1) (v := 0) h dX2_noteLooksWith_1 (by decide) ?_
  refine r_bipush (pc := 2) (v := 31) h dX2_noteLooksWith_2 (by decide) ?_
  refine p_b hf (fun q1 e2 hf => ?_)
  refine r_cNi (pc := 4) (st := []) h [.inl l1, .inl 0, .inl 31] cs_X6_isWithin nm_X2_33 (c_X6_isWithin e2) ⟨rfl, rfl, Nat.le_of_ble_eq_true rfl, Nat.le_of_ble_eq_true rfl⟩ (Nat.le_of_ble_eq_true rfl) dX2_noteLooksWith_4 ?_
  refine p_ite hf (fun hc3 hf => ?_) (fun hc3 hf => ?_)
  · refine r_if_eq (pc := 7) (tgt := 20) h dX2_noteLooksWith_7 (by decide) (fun _ => ?_) (fun q => absurd hc3 q)
    have hf := Option.some.inj hf
    subst hf
    exact hr 20 _ dX2_noteLooksWith_20
  · refine r_if_eq (pc := 7) (tgt := 20) h dX2_noteLooksWith_7 (by decide) (fun q => absurd q hc3) (fun _ => ?_)
    refine r_aload_n (pc := 10) h dX2_noteLooksWith_10 rfl ?_
    refine gf_X2_18 (pc := 11) h dX2_noteLooksWith_11 ?_
    refine r_iload_n (pc := 14) h dX2_noteLooksWith_14 rfl ?_
    refine r_dup2 (pc := 15) h dX2_noteLooksWith_15 ?_
    refine p_g hf (fun hi4 hf => ?_)
    refine r_iald (pc := 16) (k := 6) (v := (u 6 l1.toNatClampNeg)) h hshX_6 hi4 rfl dX2_noteLooksWith_16 ?_
    refine r_iload_n (pc := 17) h dX2_noteLooksWith_17 rfl ?_
    refine r_iadd (pc := 18) h dX2_noteLooksWith_18 ?_
    refine r_iast (pc := 19) (k := 6) h hshX_6 hi4 dX2_noteLooksWith_19 ?_
    have hf := Option.some.inj hf
    subst hf
    exact hr 20 _ dX2_noteLooksWith_20
theorem c_X2_noteLooksWith {u : St} {l1 l2 : Int32} {r : St} (hf : f_X2_noteLooksWith u l1 l2 = some r) : CtV shX yX2_noteLooksWith cX2_noteLooksWith 3 none rm_X2_noteLooksWith [.inr 3, .inl l1, .inl l2] u r := ct_V (by decide +kernel) (Nat.le_of_ble_eq_true rfl) (fun K E h hr => w_X2_noteLooksWith_0 h hr _ _ _ hf)
set_option maxRecDepth 100000 in
set_option maxHeartbeats 4000000 in
theorem w_X2_append_0 {K : Kx} {E : Ex} (h : Ok shX K E RX2 cX2_append 3 rm_X2_append) {r : Int32 × St} (hr : RetI shX K E cX2_append 3 r.1 r.2) (u : St) (l1 l2 : Int32) (hf : f_X2_append u l1 l2 = some r) : Vd shX K E 3 0 [some (.inr 3), some (.inl l1), some (.inl l2)] [] u := by
  refine r_aload_n (pc := 0) h dX2_append_0 rfl ?_
  refine r_iload_n (pc := 1) h dX2_append_1 rfl ?_
  refine p_b hf (fun q1 e2 hf => ?_)
  refine r_cVi (pc := 2) (k := 3) (st := []) h [.inl l1] cv_X2_has wm_X2_21 (c_X2_has e2) ⟨rfl, rfl, Nat.le_of_ble_eq_true rfl, Nat.le_of_ble_eq_true rfl⟩ hshX_3 rfl rfl (Nat.le_of_ble_eq_true rfl) dX2_append_2 ?_
  refine p_ite hf (fun hc3 hf => ?_) (fun hc3 hf => ?_)
  · refine r_if_eq (pc := 5) (tgt := 52) h dX2_append_5 (by decide) (fun _ => ?_) (fun q => absurd hc3 q)
    refine r_aload_n (pc := 52) h dX2_append_52 rfl ?_
    refine r_iload_n (pc := 53) h dX2_append_53 rfl ?_
    refine p_b hf (fun q4 e5 hf => ?_)
    refine r_cVi (pc := 54) (k := 3) (st := []) h [.inl l1] cv_X2_sizeOf wm_X2_25 (c_X2_sizeOf e5) ⟨rfl, rfl, Nat.le_of_ble_eq_true rfl, Nat.le_of_ble_eq_true rfl⟩ hshX_3 rfl rfl (Nat.le_of_ble_eq_true rfl) dX2_append_54 ?_
    have hf := Option.some.inj hf
    subst hf
    exact hr 57 _ dX2_append_57
  · refine r_if_eq (pc := 5) (tgt := 52) h dX2_append_5 (by decide) (fun q => absurd q hc3) (fun _ => ?_)
    refine r_aload_n (pc := 8) h dX2_append_8 rfl ?_
    refine gf_X2_15 (pc := 9) h dX2_append_9 ?_
    refine r_iload_n (pc := 12) h dX2_append_12 rfl ?_
    refine p_g hf (fun hi6 hf => ?_)
    refine r_iald (pc := 13) (k := 5) (v := (u 5 l1.toNatClampNeg)) h hshX_5 hi6 rfl dX2_append_13 ?_
    refine r_bipush (pc := 14) (v := 8) h dX2_append_14 (by decide) ?_
    refine p_ite hf (fun hc7 hf => ?_) (fun hc7 hf => ?_)
    · refine r_icmp_ge (pc := 16) (tgt := 52) h dX2_append_16 (by decide) (fun _ => ?_) (fun q => absurd hc7 q)
      refine r_aload_n (pc := 52) h dX2_append_52 rfl ?_
      refine r_iload_n (pc := 53) h dX2_append_53 rfl ?_
      refine p_b hf (fun q8 e9 hf => ?_)
      refine r_cVi (pc := 54) (k := 3) (st := []) h [.inl l1] cv_X2_sizeOf wm_X2_25 (c_X2_sizeOf e9) ⟨rfl, rfl, Nat.le_of_ble_eq_true rfl, Nat.le_of_ble_eq_true rfl⟩ hshX_3 rfl rfl (Nat.le_of_ble_eq_true rfl) dX2_append_54 ?_
      have hf := Option.some.inj hf
      subst hf
      exact hr 57 _ dX2_append_57
    · refine r_icmp_ge (pc := 16) (tgt := 52) h dX2_append_16 (by decide) (fun q => absurd q hc7) (fun _ => ?_)
      refine r_aload_n (pc := 19) h dX2_append_19 rfl ?_
      refine gf_X2_9 (pc := 20) h dX2_append_20 ?_
      refine r_iload_n (pc := 23) h dX2_append_23 rfl ?_
      refine r_bipush (pc := 24) (v := 8) h dX2_append_24 (by decide) ?_
      refine r_imul (pc := 26) h dX2_append_26 ?_
      refine r_aload_n (pc := 27) h dX2_append_27 rfl ?_
      refine gf_X2_15 (pc := 28) h dX2_append_28 ?_
      refine r_iload_n (pc := 31) h dX2_append_31 rfl ?_
      refine r_iald (pc := 32) (k := 5) (v := (u 5 l1.toNatClampNeg)) h hshX_5 hi6 rfl dX2_append_32 ?_
      refine r_iadd (pc := 33) h dX2_append_33 ?_
      refine r_iload_n (pc := 34) h dX2_append_34 rfl ?_
      refine p_g hf (fun hi10 hf => ?_)
      refine r_iast (pc := 35) (k := 4) h hshX_4 hi10 dX2_append_35 ?_
      refine r_aload_n (pc := 36) h dX2_append_36 rfl ?_
      refine gf_X2_15 (pc := 37) h dX2_append_37 ?_
      refine r_iload_n (pc := 40) h dX2_append_40 rfl ?_
      refine r_dup2 (pc := 41) h dX2_append_41 ?_
      refine r_iald (pc := 42) (k := 5) (v := (u 5 l1.toNatClampNeg)) h hshX_5 hi6 rfl dX2_append_42 ?_
      refine r_iconst (pc := 43) (v := 1) h dX2_append_43 (by decide) ?_
      refine r_iadd (pc := 44) h dX2_append_44 ?_
      refine r_iast (pc := 45) (k := 5) h hshX_5 hi6 dX2_append_45 ?_
      refine r_aload_n (pc := 46) h dX2_append_46 rfl ?_
      refine r_iload_n (pc := 47) h dX2_append_47 rfl ?_
      refine r_iconst (pc := 48) (v := 1) h dX2_append_48 (by decide) ?_
      refine p_b hf (fun q11 e12 hf => ?_)
      refine r_cVv (pc := 49) (k := 3) (st := []) h [.inl l2, .inl 1] cv_X2_noteLooksWith wm_X2_37 (c_X2_noteLooksWith e12) ⟨rfl, rfl, Nat.le_of_ble_eq_true rfl, Nat.le_of_ble_eq_true rfl⟩ hshX_3 rfl rfl (Nat.le_of_ble_eq_true rfl) dX2_append_49 ?_
      refine r_aload_n (pc := 52) h dX2_append_52 rfl ?_
      refine r_iload_n (pc := 53) h dX2_append_53 rfl ?_
      refine p_b hf (fun q13 e14 hf => ?_)
      refine r_cVi (pc := 54) (k := 3) (st := []) h [.inl l1] cv_X2_sizeOf wm_X2_25 (c_X2_sizeOf e14) ⟨rfl, rfl, Nat.le_of_ble_eq_true rfl, Nat.le_of_ble_eq_true rfl⟩ hshX_3 rfl rfl (Nat.le_of_ble_eq_true rfl) dX2_append_54 ?_
      have hf := Option.some.inj hf
      subst hf
      exact hr 57 _ dX2_append_57
theorem c_X2_append {u : St} {l1 l2 : Int32} {r : Int32 × St} (hf : f_X2_append u l1 l2 = some r) : CtI shX yX2_append cX2_append 3 (some .int) rm_X2_append [.inr 3, .inl l1, .inl l2] u r.1 r.2 := ct_I (by decide +kernel) (Nat.le_of_ble_eq_true rfl) (fun K E h hr => w_X2_append_0 h hr _ _ _ hf)
set_option maxRecDepth 100000 in
set_option maxHeartbeats 4000000 in
theorem w_X6_wear_0 {K : Kx} {E : Ex} (h : Ok shX K E RX6 cX6_wear 3 rm_X6_wear) {r : Int32 × St} (hr : RetI shX K E cX6_wear 3 r.1 r.2) (u : St) (l1 l2 : Int32) (hf : f_X6_wear u l1 l2 = some r) : Vd shX K E 3 0 [some (.inr 0), some (.inl l1), some (.inl l2)] [] u := by
  refine r_aload_n (pc := 0) h dX6_wear_0 rfl ?_
  refine gf_X6_19 (pc := 1) h dX6_wear_1 ?_
  refine r_iload_n (pc := 4) h dX6_wear_4 rfl ?_
  refine p_b hf (fun q1 e2 hf => ?_)
  refine r_cVi (pc := 5) (k := 3) (st := []) h [.inl l1] cv_X2_has wm_X6_95 (c_X2_has e2) ⟨rfl, rfl, Nat.le_of_ble_eq_true rfl, Nat.le_of_ble_eq_true rfl⟩ hshX_3 rfl rfl (Nat.le_of_ble_eq_true rfl) dX6_wear_5 ?_
  refine p_ite hf (fun hc3 hf => ?_) (fun hc3 hf => ?_)
  · refine r_if_eq (pc := 8) (tgt := 22) h dX6_wear_8 (by decide) (fun _ => ?_) (fun q => absurd hc3 q)
    refine r_aload_n (pc := 22) h dX6_wear_22 rfl ?_
    refine r_iconst (pc := 23) (v := 1) h dX6_wear_23 (by decide) ?_
    refine p_b hf (fun q4 e5 hf => ?_)
    refine r_cVi (pc := 24) (k := 0) (st := []) h [.inl 1] cv_X6_finding wm_X6_72 (c_X6_finding e5) ⟨rfl, rfl, Nat.le_of_ble_eq_true rfl, Nat.le_of_ble_eq_true rfl⟩ hshX_0 rfl rfl (Nat.le_of_ble_eq_true rfl) dX6_wear_24 ?_
    have hf := Option.some.inj hf
    subst hf
    exact hr 27 _ dX6_wear_27
  · refine r_if_eq (pc := 8) (tgt := 22) h dX6_wear_8 (by decide) (fun q => absurd q hc3) (fun _ => ?_)
    refine r_aload_n (pc := 11) h dX6_wear_11 rfl ?_
    refine gf_X6_10 (pc := 12) h dX6_wear_12 ?_
    refine r_iload_n (pc := 15) h dX6_wear_15 rfl ?_
    refine p_b hf (fun q6 e7 hf => ?_)
    refine r_cVi (pc := 16) (k := 1) (st := []) h [.inl l2] cv_X5_has wm_X6_84 (c_X5_has e7) ⟨rfl, rfl, Nat.le_of_ble_eq_true rfl, Nat.le_of_ble_eq_true rfl⟩ hshX_1 rfl rfl (Nat.le_of_ble_eq_true rfl) dX6_wear_16 ?_
    refine p_ite hf (fun hc8 hf => ?_) (fun hc8 hf => ?_)
    · refine r_if_ne (pc := 19) (tgt := 28) h dX6_wear_19 (by decide) (fun q => absurd hc8 q) (fun _ => ?_)
      refine r_aload_n (pc := 22) h dX6_wear_22 rfl ?_
      refine r_iconst (pc := 23) (v := 1) h dX6_wear_23 (by decide) ?_
      refine p_b hf (fun q21 e22 hf => ?_)
      refine r_cVi (pc := 24) (k := 0) (st := []) h [.inl 1] cv_X6_finding wm_X6_72 (c_X6_finding e22) ⟨rfl, rfl, Nat.le_of_ble_eq_true rfl, Nat.le_of_ble_eq_true rfl⟩ hshX_0 rfl rfl (Nat.le_of_ble_eq_true rfl) dX6_wear_24 ?_
      have hf := Option.some.inj hf
      subst hf
      exact hr 27 _ dX6_wear_27
    · refine r_if_ne (pc := 19) (tgt := 28) h dX6_wear_19 (by decide) (fun _ => ?_) (fun q => absurd q hc8)
      refine r_aload_n (pc := 28) h dX6_wear_28 rfl ?_
      refine gf_X6_19 (pc := 29) h dX6_wear_29 ?_
      refine r_iload_n (pc := 32) h dX6_wear_32 rfl ?_
      refine r_iload_n (pc := 33) h dX6_wear_33 rfl ?_
      refine p_b hf (fun q9 e10 hf => ?_)
      refine r_cVi (pc := 34) (k := 3) (st := []) h [.inl l1, .inl l2] cv_X2_indexOf wm_X6_96 (c_X2_indexOf e10) ⟨rfl, rfl, Nat.le_of_ble_eq_true rfl, Nat.le_of_ble_eq_true rfl⟩ hshX_3 rfl rfl (Nat.le_of_ble_eq_true rfl) dX6_wear_34 ?_
      refine p_ite hf (fun hc11 hf => ?_) (fun hc11 hf => ?_)
      · refine r_if_lt (pc := 37) (tgt := 46) h dX6_wear_37 (by decide) (fun _ => ?_) (fun q => absurd hc11 q)
        refine r_aload_n (pc := 46) h dX6_wear_46 rfl ?_
        refine gf_X6_19 (pc := 47) h dX6_wear_47 ?_
        refine r_iload_n (pc := 50) h dX6_wear_50 rfl ?_
        refine p_b hf (fun q12 e13 hf => ?_)
        refine r_cVi (pc := 51) (k := 3) (st := []) h [.inl l1] cv_X2_sizeOf wm_X6_99 (c_X2_sizeOf e13) ⟨rfl, rfl, Nat.le_of_ble_eq_true rfl, Nat.le_of_ble_eq_true rfl⟩ hshX_3 rfl rfl (Nat.le_of_ble_eq_true rfl) dX6_wear_51 ?_
        refine r_bipush (pc := 54) (v := 8) h dX6_wear_54 (by decide) ?_
        refine p_ite hf (fun hc14 hf => ?_) (fun hc14 hf => ?_)
        · refine r_icmp_lt (pc := 56) (tgt := 65) h dX6_wear_56 (by decide) (fun _ => ?_) (fun q => absurd hc14 q)
          refine r_aload_n (pc := 65) h dX6_wear_65 rfl ?_
          refine gf_X6_19 (pc := 66) h dX6_wear_66 ?_
          refine r_iload_n (pc := 69) h dX6_wear_69 rfl ?_
          refine r_iload_n (pc := 70) h dX6_wear_70 rfl ?_
          refine p_b hf (fun q15 e16 hf => ?_)
          refine r_cVi (pc := 71) (k := 3) (st := []) h [.inl l1, .inl l2] cv_X2_append wm_X6_102 (c_X2_append e16) ⟨rfl, rfl, Nat.le_of_ble_eq_true rfl, Nat.le_of_ble_eq_true rfl⟩ hshX_3 rfl rfl (Nat.le_of_ble_eq_true rfl) dX6_wear_71 ?_
          have hf := Option.some.inj hf
          subst hf
          exact hr 74 _ dX6_wear_74
        · refine r_icmp_lt (pc := 56) (tgt := 65) h dX6_wear_56 (by decide) (fun q => absurd q hc14) (fun _ => ?_)
          refine r_aload_n (pc := 59) h dX6_wear_59 rfl ?_
          refine r_iconst (pc := 60) (v := 4) h dX6_wear_60 (by decide) ?_
          refine p_b hf (fun q17 e18 hf => ?_)
          refine r_cVi (pc := 61) (k := 0) (st := []) h [.inl 4] cv_X6_finding wm_X6_72 (c_X6_finding e18) ⟨rfl, rfl, Nat.le_of_ble_eq_true rfl, Nat.le_of_ble_eq_true rfl⟩ hshX_0 rfl rfl (Nat.le_of_ble_eq_true rfl) dX6_wear_61 ?_
          have hf := Option.some.inj hf
          subst hf
          exact hr 64 _ dX6_wear_64
      · refine r_if_lt (pc := 37) (tgt := 46) h dX6_wear_37 (by decide) (fun q => absurd q hc11) (fun _ => ?_)
        refine r_aload_n (pc := 40) h dX6_wear_40 rfl ?_
        refine r_iconst (pc := 41) (v := 3) h dX6_wear_41 (by decide) ?_
        refine p_b hf (fun q19 e20 hf => ?_)
        refine r_cVi (pc := 42) (k := 0) (st := []) h [.inl 3] cv_X6_finding wm_X6_72 (c_X6_finding e20) ⟨rfl, rfl, Nat.le_of_ble_eq_true rfl, Nat.le_of_ble_eq_true rfl⟩ hshX_0 rfl rfl (Nat.le_of_ble_eq_true rfl) dX6_wear_42 ?_
        have hf := Option.some.inj hf
        subst hf
        exact hr 45 _ dX6_wear_45
theorem c_X6_wear {u : St} {l1 l2 : Int32} {r : Int32 × St} (hf : f_X6_wear u l1 l2 = some r) : CtI shX yX6_wear cX6_wear 3 (some .int) rm_X6_wear [.inr 0, .inl l1, .inl l2] u r.1 r.2 := ct_I (by decide +kernel) (Nat.le_of_ble_eq_true rfl) (fun K E h hr => w_X6_wear_0 h hr _ _ _ hf)
set_option maxRecDepth 100000 in
set_option maxHeartbeats 4000000 in
theorem w_X2_clear_8 {K : Kx} {E : Ex} (h : Ok shX K E RX2 cX2_clear 4 rm_X2_clear) {r : Int32 × St} (hr : RetI shX K E cX2_clear 4 r.1 r.2) : ∀ (n : Nat) (u : St) (l1 l2 l3 : Int32), f_X2_clear_8 n u l1 l2 l3 = some r → Vd shX K E 4 8 [some (.inr 3), some (.inl l1), some (.inl l2), some (.inl l3)] [] u := by
  intro n
  induction n with
  | zero => intro u l1 l2 l3 hf; cases hf
  | succ n ih =>
    intro u l1 l2 l3 hf
    refine r_iload_n (pc := 8) h dX2_clear_8 rfl ?_
    refine r_iload_n (pc := 9) h dX2_clear_9 rfl ?_
    refine p_ite hf (fun hc1 hf => ?_) (fun hc1 hf => ?_)
    · refine r_icmp_ge (pc := 10) (tgt := 30) h dX2_clear_10 (by decide) (fun _ => ?_) (fun q => absurd hc1 q)
      refine r_aload_n (pc := 30) h dX2_clear_30 rfl ?_
      refine r_iload_n (pc := 31) h dX2_clear_31 rfl ?_
      refine p_b hf (fun q2 e3 hf => ?_)
      refine r_cVi (pc := 32) (k := 3) (st := []) h [.inl l1] cv_X2_has wm_X2_21 (c_X2_has e3) ⟨rfl, rfl, Nat.le_of_ble_eq_true rfl, Nat.le_of_ble_eq_true rfl⟩ hshX_3 rfl rfl (Nat.le_of_ble_eq_true rfl) dX2_clear_32 ?_
      refine p_ite hf (fun hc4 hf => ?_) (fun hc4 hf => ?_)
      · refine r_if_eq (pc := 35) (tgt := 45) h dX2_clear_35 (by decide) (fun _ => ?_) (fun q => absurd hc4 q)
        refine r_iload_n (pc := 45) h dX2_clear_45 rfl ?_
        have hf := Option.some.inj hf
        subst hf
        exact hr 46 _ dX2_clear_46
      · refine r_if_eq (pc := 35) (tgt := 45) h dX2_clear_35 (by decide) (fun q => absurd q hc4) (fun _ => ?_)
        refine r_aload_n (pc := 38) h dX2_clear_38 rfl ?_
        refine gf_X2_15 (pc := 39) h dX2_clear_39 ?_
        refine r_iload_n (pc := 42) h dX2_clear_42 rfl ?_
        refine r_iconst (pc := 43) (v := 0) h dX2_clear_43 (by decide) ?_
        refine p_g hf (fun hi5 hf => ?_)
        refine r_iast (pc := 44) (k := 5) h hshX_5 hi5 dX2_clear_44 ?_
        refine r_iload_n (pc := 45) h dX2_clear_45 rfl ?_
        have hf := Option.some.inj hf
        subst hf
        exact hr 46 _ dX2_clear_46
    · refine r_icmp_ge (pc := 10) (tgt := 30) h dX2_clear_10 (by decide) (fun q => absurd q hc1) (fun _ => ?_)
      refine r_aload_n (pc := 13) h dX2_clear_13 rfl ?_
      refine r_aload_n (pc := 14) h dX2_clear_14 rfl ?_
      refine r_iload_n (pc := 15) h dX2_clear_15 rfl ?_
      refine r_iload_n (pc := 16) h dX2_clear_16 rfl ?_
      refine p_b hf (fun q6 e7 hf => ?_)
      refine r_cVi (pc := 17) (k := 3) (st := [.inr 3]) h [.inl l1, .inl l3] cv_X2_at wm_X2_29 (c_X2_at e7) ⟨rfl, rfl, Nat.le_of_ble_eq_true rfl, Nat.le_of_ble_eq_true rfl⟩ hshX_3 rfl rfl (Nat.le_of_ble_eq_true rfl) dX2_clear_17 ?_
      refine r_iconst (pc := 20) (v := (-1)) h dX2_clear_20 (by decide) ?_
      refine p_b hf (fun q8 e9 hf => ?_)
      refine r_cVv (pc := 21) (k := 3) (st := []) h [.inl q6, .inl (-1)] cv_X2_noteLooksWith wm_X2_37 (c_X2_noteLooksWith e9) ⟨rfl, rfl, Nat.le_of_ble_eq_true rfl, Nat.le_of_ble_eq_true rfl⟩ hshX_3 rfl rfl (Nat.le_of_ble_eq_true rfl) dX2_clear_21 ?_
      refine r_iinc (pc := 24) (v := (l3 + 1)) (L' := [some (.inr 3), some (.inl l1), some (.inl l2), some (.inl (l3 + 1))]) h dX2_clear_24 rfl rfl (by decide) rfl ?_
      refine r_goto (pc := 27) (tgt := 8) h dX2_clear_27 (by decide) ?_
      exact ih _ _ _ _ hf
set_option maxRecDepth 100000 in
set_option maxHeartbeats 4000000 in
theorem w_X2_clear_0 {K : Kx} {E : Ex} (h : Ok shX K E RX2 cX2_clear 4 rm_X2_clear) {r : Int32 × St} (hr : RetI shX K E cX2_clear 4 r.1 r.2) (u : St) (l1 : Int32) (hf : f_X2_clear u l1 = some r) : Vd shX K E 4 0 [some (.inr 3), some (.inl l1), none, none] [] u := by
  refine r_aload_n (pc := 0) h dX2_clear_0 rfl ?_
  refine r_iload_n (pc := 1) h dX2_clear_1 rfl ?_
  refine p_b hf (fun q10 e11 hf => ?_)
  refine r_cVi (pc := 2) (k := 3) (st := []) h [.inl l1] cv_X2_sizeOf wm_X2_25 (c_X2_sizeOf e11) ⟨rfl, rfl, Nat.le_of_ble_eq_true rfl, Nat.le_of_ble_eq_true rfl⟩ hshX_3 rfl rfl (Nat.le_of_ble_eq_true rfl) dX2_clear_2 ?_
  refine r_istore_n (pc := 5) (L' := [some (.inr 3), some (.inl l1), some (.inl q10), none]) h dX2_clear_5 (by decide) rfl ?_
  refine r_iconst (pc := 6) (v := 0) h dX2_clear_6 (by decide) ?_
  refine r_istore_n (pc := 7) (L' := [some (.inr 3), some (.inl l1), some (.inl q10), some (.inl 0)]) h dX2_clear_7 (by decide) rfl ?_
  exact w_X2_clear_8 h hr FU _ _ _ _ hf
theorem c_X2_clear {u : St} {l1 : Int32} {r : Int32 × St} (hf : f_X2_clear u l1 = some r) : CtI shX yX2_clear cX2_clear 4 (some .int) rm_X2_clear [.inr 3, .inl l1] u r.1 r.2 := ct_I (by decide +kernel) (Nat.le_of_ble_eq_true rfl) (fun K E h hr => w_X2_clear_0 h hr _ _ hf)
