set_option maxRecDepth 100000 in
set_option maxHeartbeats 4000000 in
theorem w_X7_tell__0 {K : Kx} {E : Ex} (h : Ok shM K E RX7 cX7_tell_ 2 rm_X7_tell_) {r : Int32 × St} (hr : RetI shM K E cX7_tell_ 2 r.1 r.2) (u : St) (l1 : Int32) (hf : f_X7_tell_ u l1 = some r) : Vd shM K E 2 0 [some (.inr 0), some (.inl l1)] [] u := by
  refine r_aload_n (pc := 0) h dX7_tell__0 rfl ?_
  refine gf_X7_195 (pc := 1) (v := (u 0 23)) h rfl dX7_tell__1 ?_
  refine r_bipush (pc := 4) (v := 30) h dX7_tell__4 (by decide) ?_
  refine p_ite hf (fun hc1 hf => ?_) (fun hc1 hf => ?_)
  · refine r_icmp_ne (pc := 6) (tgt := 15) h dX7_tell__6 (by decide) (fun q => absurd hc1 q) (fun _ => ?_)
    refine r_aload_n (pc := 9) h dX7_tell__9 rfl ?_
    refine r_iconst (pc := 10) (v := 4) h dX7_tell__10 (by decide) ?_
    refine p_b hf (fun q3 e4 hf => ?_)
    refine r_cVi (pc := 11) (k := 0) (st := []) h [.inl 4] cv_X7_finding wm_X7_104 (c_X7_finding e4) ⟨rfl, rfl, Nat.le_of_ble_eq_true rfl, Nat.le_of_ble_eq_true rfl⟩ hshM_0 rfl rfl (Nat.le_of_ble_eq_true rfl) dX7_tell__11 ?_
    have hf := Option.some.inj hf
    subst hf
    exact hr 14 _ dX7_tell__14
  · refine r_icmp_ne (pc := 6) (tgt := 15) h dX7_tell__6 (by decide) (fun _ => ?_) (fun q => absurd q hc1)
    refine r_aload_n (pc := 15) h dX7_tell__15 rfl ?_
    refine gf_X7_71 (pc := 16) h dX7_tell__16 ?_
    refine r_aload_n (pc := 19) h dX7_tell__19 rfl ?_
    refine gf_X7_195 (pc := 20) (v := (u 0 23)) h rfl dX7_tell__20 ?_
    refine r_iload_n (pc := 23) h dX7_tell__23 rfl ?_
    refine p_g hf (fun hi2 hf => ?_)
    refine r_iast (pc := 24) (k := 20) h hshM_20 hi2 dX7_tell__24 ?_
    refine r_aload_n (pc := 25) h dX7_tell__25 rfl ?_
    refine r_dup (pc := 26) h dX7_tell__26 ?_
    refine gf_X7_195 (pc := 27) (v := (u 0 23)) h rfl dX7_tell__27 ?_
    refine r_iconst (pc := 30) (v := 1) h dX7_tell__30 (by decide) ?_
    refine r_iadd (pc := 31) h dX7_tell__31 ?_
    refine pf_X7_195 (pc := 32) h dX7_tell__32 ?_
    refine r_aload_n (pc := 35) h dX7_tell__35 rfl ?_
    refine gf_X7_195 (pc := 36) (v := ((u 0 23) + 1)) h rfl dX7_tell__36 ?_
    have hf := Option.some.inj hf
    subst hf
    exact hr 39 _ dX7_tell__39
theorem c_X7_tell_ {u : St} {l1 : Int32} {r : Int32 × St} (hf : f_X7_tell_ u l1 = some r) : CtI shM yX7_tell_ cX7_tell_ 2 (some .int) rm_X7_tell_ [.inr 0, .inl l1] u r.1 r.2 := ct_I (by decide +kernel) (Nat.le_of_ble_eq_true rfl) (fun K E h hr => w_X7_tell__0 h hr _ _ hf)
set_option maxRecDepth 100000 in
set_option maxHeartbeats 4000000 in
theorem w_X7_bodyPlace_4 {K : Kx} {E : Ex} (h : Ok shM K E RX7 cX7_bodyPlace 4 rm_X7_bodyPlace) {r : Int32} {u : St} (hr : RetI shM K E cX7_bodyPlace 4 r u) : ∀ (n : Nat) (l1 l2 l3 : Int32), f_X7_bodyPlace_4 u n l1 l2 l3 = some r → Vd shM K E 4 4 [some (.inr 0), some (.inl l1), some (.inl l2), some (.inl l3)] [] u := by
  intro n
  induction n with
  | zero => intro l1 l2 l3 hf; cases hf
  | succ n ih =>
    intro l1 l2 l3 hf
    refine r_iload_n (pc := 4) h dX7_bodyPlace_4 rfl ?_
    refine r_aload_n (pc := 5) h dX7_bodyPlace_5 rfl ?_
    refine gf_X7_198 (pc := 6) (v := (u 0 36)) h rfl dX7_bodyPlace_6 ?_
    refine p_ite hf (fun hc1 hf => ?_) (fun hc1 hf => ?_)
    · refine r_icmp_ge (pc := 9) (tgt := 34) h dX7_bodyPlace_9 (by decide) (fun _ => ?_) (fun q => absurd hc1 q)
      refine r_iload_n (pc := 34) h dX7_bodyPlace_34 rfl ?_
      have hf := Option.some.inj hf
      subst hf
      exact hr 35 _ dX7_bodyPlace_35
    · refine r_icmp_ge (pc := 9) (tgt := 34) h dX7_bodyPlace_9 (by decide) (fun q => absurd q hc1) (fun _ => ?_)
      refine r_aload_n (pc := 12) h dX7_bodyPlace_12 rfl ?_
      refine gf_X7_93 (pc := 13) h dX7_bodyPlace_13 ?_
      refine r_iload_n (pc := 16) h dX7_bodyPlace_16 rfl ?_
      refine p_g hf (fun hi2 hf => ?_)
      refine r_iald (pc := 17) (k := 27) (v := (u 27 l3.toNatClampNeg)) h hshM_27 hi2 rfl dX7_bodyPlace_17 ?_
      refine r_iload_n (pc := 18) h dX7_bodyPlace_18 rfl ?_
      refine p_ite hf (fun hc3 hf => ?_) (fun hc3 hf => ?_)
      · refine r_icmp_ne (pc := 19) (tgt := 26) h dX7_bodyPlace_19 (by decide) (fun q => absurd hc3 q) (fun _ => ?_)
        refine r_iload_n (pc := 22) h dX7_bodyPlace_22 rfl ?_
        refine r_goto (pc := 23) (tgt := 27) h dX7_bodyPlace_23 (by decide) ?_
        refine r_istore_n (pc := 27) (L' := [some (.inr 0), some (.inl l1), some (.inl l3), some (.inl l3)]) h dX7_bodyPlace_27 (by decide) rfl ?_
        refine r_iinc (pc := 28) (v := (l3 + 1)) (L' := [some (.inr 0), some (.inl l1), some (.inl l3), some (.inl (l3 + 1))]) h dX7_bodyPlace_28 rfl rfl (by decide) rfl ?_
        refine r_goto (pc := 31) (tgt := 4) h dX7_bodyPlace_31 (by decide) ?_
        exact ih _ _ _ hf
      · refine r_icmp_ne (pc := 19) (tgt := 26) h dX7_bodyPlace_19 (by decide) (fun _ => ?_) (fun q => absurd q hc3)
        refine r_iload_n (pc := 26) h dX7_bodyPlace_26 rfl ?_
        refine r_istore_n (pc := 27) (L' := [some (.inr 0), some (.inl l1), some (.inl l2), some (.inl l3)]) h dX7_bodyPlace_27 (by decide) rfl ?_
        refine r_iinc (pc := 28) (v := (l3 + 1)) (L' := [some (.inr 0), some (.inl l1), some (.inl l2), some (.inl (l3 + 1))]) h dX7_bodyPlace_28 rfl rfl (by decide) rfl ?_
        refine r_goto (pc := 31) (tgt := 4) h dX7_bodyPlace_31 (by decide) ?_
        exact ih _ _ _ hf
set_option maxRecDepth 100000 in
set_option maxHeartbeats 4000000 in
theorem w_X7_bodyPlace_0 {K : Kx} {E : Ex} (h : Ok shM K E RX7 cX7_bodyPlace 4 rm_X7_bodyPlace) {r : Int32} {u : St} (hr : RetI shM K E cX7_bodyPlace 4 r u) (l1 : Int32) (hf : f_X7_bodyPlace u l1 = some r) : Vd shM K E 4 0 [some (.inr 0), some (.inl l1), none, none] [] u := by
  refine r_iconst (pc := 0) (v := (-1)) h dX7_bodyPlace_0 (by decide) ?_
  refine r_istore_n (pc := 1) (L' := [some (.inr 0), some (.inl l1), some (.inl (-1)), none]) h dX7_bodyPlace_1 (by decide) rfl ?_
  refine r_iconst (pc := 2) (v := 0) h dX7_bodyPlace_2 (by decide) ?_
  refine r_istore_n (pc := 3) (L' := [some (.inr 0), some (.inl l1), some (.inl (-1)), some (.inl 0)]) h dX7_bodyPlace_3 (by decide) rfl ?_
  exact w_X7_bodyPlace_4 h hr FU _ _ _ hf
theorem c_X7_bodyPlace {u : St} {l1 : Int32} {r : Int32} (hf : f_X7_bodyPlace u l1 = some r) : CtI shM yX7_bodyPlace cX7_bodyPlace 4 (some .int) rm_X7_bodyPlace [.inr 0, .inl l1] u r u := ct_I (by decide +kernel) (Nat.le_of_ble_eq_true rfl) (fun K E h hr => w_X7_bodyPlace_0 h hr _ hf)
set_option maxRecDepth 100000 in
set_option maxHeartbeats 4000000 in
theorem w_X7_handles_148 {K : Kx} {E : Ex} (h : Ok shM K E RX7 cX7_handles 6 rm_X7_handles) {r : Int32 × St} (hr : RetZ shM K E cX7_handles 6 r.1 r.2) : ∀ (n : Nat) (u : St) (l4 l5 : Int32), f_X7_handles_148 n u l4 l5 = some r → Vd shM K E 6 148 [some (.inr 0), none, none, none, some (.inl l4), some (.inl l5)] [] u := by
  intro n
  induction n with
  | zero => intro u l4 l5 hf; cases hf
  | succ n ih =>
    intro u l4 l5 hf
    refine r_iload (pc := 148) h dX7_handles_148 rfl ?_
    refine r_aload_n (pc := 150) h dX7_handles_150 rfl ?_
    refine gf_X7_198 (pc := 151) (v := (u 0 36)) h rfl dX7_handles_151 ?_
    refine p_ite hf (fun hc1 hf => ?_) (fun hc1 hf => ?_)
    · refine r_icmp_ge (pc := 154) (tgt := 179) h dX7_handles_154 (by decide) (fun _ => ?_) (fun q => absurd hc1 q)
      refine r_iload (pc := 179) h dX7_handles_179 rfl ?_
      refine p_gp hf (fun hc2 hf => ?_)
      have hf := Option.some.inj hf
      subst hf
      exact hr 181 _ dX7_handles_181 (z01 hc2)
    · refine r_icmp_ge (pc := 154) (tgt := 179) h dX7_handles_154 (by decide) (fun q => absurd q hc1) (fun _ => ?_)
      refine r_aload_n (pc := 157) h dX7_handles_157 rfl ?_
      refine gf_X7_93 (pc := 158) h dX7_handles_158 ?_
      refine r_iload (pc := 161) h dX7_handles_161 rfl ?_
      refine r_aload_n (pc := 163) h dX7_handles_163 rfl ?_
      refine gf_X7_93 (pc := 164) h dX7_handles_164 ?_
      refine r_iload (pc := 167) h dX7_handles_167 rfl ?_
      refine r_iconst (pc := 169) (v := 1) h dX7_handles_169 (by decide) ?_
      refine r_iadd (pc := 170) h dX7_handles_170 ?_
      refine p_g hf (fun hi3 hf => ?_)
      refine r_iald (pc := 171) (k := 27) (v := (u 27 (l5 + 1).toNatClampNeg)) h hshM_27 hi3 rfl dX7_handles_171 ?_
      refine p_g hf (fun hi4 hf => ?_)
      refine r_iast (pc := 172) (k := 27) h hshM_27 hi4 dX7_handles_172 ?_
      refine r_iinc (pc := 173) (v := (l5 + 1)) (L' := [some (.inr 0), none, none, none, some (.inl l4), some (.inl (l5 + 1))]) h dX7_handles_173 rfl rfl (by decide) rfl ?_
      refine r_goto (pc := 176) (tgt := 148) h dX7_handles_176 (by decide) ?_
      exact ih _ _ _ hf
set_option maxRecDepth 100000 in
set_option maxHeartbeats 4000000 in
theorem w_X7_handles_130 {K : Kx} {E : Ex} (h : Ok shM K E RX7 cX7_handles 6 rm_X7_handles) {r : Int32 × St} (hr : RetZ shM K E cX7_handles 6 r.1 r.2) (u : St) (l3 l4 : Int32) (hf : f_X7_handles_130 u l3 l4 = some r) : Vd shM K E 6 130 [some (.inr 0), none, none, some (.inl l3), some (.inl l4), none] [] u := by
  refine r_iload (pc := 130) h dX7_handles_130 rfl ?_
  refine p_ite hf (fun hc5 hf => ?_) (fun hc5 hf => ?_)
  · refine r_if_eq (pc := 132) (tgt := 179) h dX7_handles_132 (by decide) (fun _ => ?_) (fun q => absurd hc5 q)
    refine r_iload (pc := 179) h dX7_handles_179 rfl ?_
    refine p_gp hf (fun hc6 hf => ?_)
    have hf := Option.some.inj hf
    subst hf
    exact hr 181 _ dX7_handles_181 (z01 hc6)
  · refine r_if_eq (pc := 132) (tgt := 179) h dX7_handles_132 (by decide) (fun q => absurd q hc5) (fun _ => ?_)
    refine r_aload_n (pc := 135) h dX7_handles_135 rfl ?_
    refine r_dup (pc := 136) h dX7_handles_136 ?_
    refine gf_X7_198 (pc := 137) (v := (u 0 36)) h rfl dX7_handles_137 ?_
    refine r_iconst (pc := 140) (v := 1) h dX7_handles_140 (by decide) ?_
    refine r_isub (pc := 141) h dX7_handles_141 ?_
    refine pf_X7_198 (pc := 142) h dX7_handles_142 ?_
    refine r_iload_n (pc := 145) h dX7_handles_145 rfl ?_
    refine r_istore (pc := 146) (L' := [some (.inr 0), none, none, some (.inl l3), some (.inl l4), some (.inl l3)]) h dX7_handles_146 (by decide) rfl ?_
    refine r_le [some (.inr 0), none, none, none, some (.inl l4), some (.inl l3)] ⟨rfl, ⟨rfl, ⟨rfl, trivial⟩⟩⟩ ?_
    exact w_X7_handles_148 h hr FU _ _ _ hf
set_option maxRecDepth 100000 in
set_option maxHeartbeats 4000000 in
theorem w_X7_handles_82 {K : Kx} {E : Ex} (h : Ok shM K E RX7 cX7_handles 6 rm_X7_handles) {r : Int32 × St} (hr : RetZ shM K E cX7_handles 6 r.1 r.2) : ∀ (n : Nat) (u : St) (l2 l3 l4 l5 : Int32), f_X7_handles_82 n u l2 l3 l4 l5 = some r → Vd shM K E 6 82 [some (.inr 0), none, some (.inl l2), some (.inl l3), some (.inl l4), some (.inl l5)] [] u := by
  intro n
  induction n with
  | zero => intro u l2 l3 l4 l5 hf; cases hf
  | succ n ih =>
    intro u l2 l3 l4 l5 hf
    refine r_iload (pc := 82) h dX7_handles_82 rfl ?_
    refine r_aload_n (pc := 84) h dX7_handles_84 rfl ?_
    refine gf_X7_198 (pc := 85) (v := (u 0 36)) h rfl dX7_handles_85 ?_
    refine p_ite hf (fun hc7 hf => ?_) (fun hc7 hf => ?_)
    · refine r_icmp_ge (pc := 88) (tgt := 130) h dX7_handles_88 (by decide) (fun _ => ?_) (fun q => absurd hc7 q)
      refine r_le [some (.inr 0), none, none, some (.inl l3), some (.inl l4), none] ⟨rfl, ⟨rfl, ⟨rfl, trivial⟩⟩⟩ ?_
      exact w_X7_handles_130 h hr _ _ _ hf
    · refine r_icmp_ge (pc := 88) (tgt := 130) h dX7_handles_88 (by decide) (fun q => absurd q hc7) (fun _ => ?_)
      refine r_iload (pc := 91) h dX7_handles_91 rfl ?_
      refine p_ite hf (fun hc8 hf => ?_) (fun hc8 hf => ?_)
      · refine r_if_eq (pc := 93) (tgt := 130) h dX7_handles_93 (by decide) (fun _ => ?_) (fun q => absurd hc8 q)
        refine r_le [some (.inr 0), none, none, some (.inl l3), some (.inl l4), none] ⟨rfl, ⟨rfl, ⟨rfl, trivial⟩⟩⟩ ?_
        exact w_X7_handles_130 h hr _ _ _ hf
      · refine r_if_eq (pc := 93) (tgt := 130) h dX7_handles_93 (by decide) (fun q => absurd q hc8) (fun _ => ?_)
        refine r_aload_n (pc := 96) h dX7_handles_96 rfl ?_
        refine gf_X7_13 (pc := 97) h dX7_handles_97 ?_
        refine r_aload_n (pc := 100) h dX7_handles_100 rfl ?_
        refine gf_X7_93 (pc := 101) h dX7_handles_101 ?_
        refine r_iload (pc := 104) h dX7_handles_104 rfl ?_
        refine p_g hf (fun hi9 hf => ?_)
        refine r_iald (pc := 106) (k := 27) (v := (u 27 l5.toNatClampNeg)) h hshM_27 hi9 rfl dX7_handles_106 ?_
        refine p_g hf (fun hi10 hf => ?_)
        refine r_iald (pc := 107) (k := 2) (v := (u 2 (u 27 l5.toNatClampNeg).toNatClampNeg)) h hshM_2 hi10 rfl dX7_handles_107 ?_
        refine r_aload_n (pc := 108) h dX7_handles_108 rfl ?_
        refine gf_X7_13 (pc := 109) h dX7_handles_109 ?_
        refine r_iload_n (pc := 112) h dX7_handles_112 rfl ?_
        refine p_g hf (fun hi11 hf => ?_)
        refine r_iald (pc := 113) (k := 2) (v := (u 2 l2.toNatClampNeg)) h hshM_2 hi11 rfl dX7_handles_113 ?_
        refine p_ite hf (fun hc12 hf => ?_) (fun hc12 hf => ?_)
        · refine r_icmp_eq (pc := 114) (tgt := 121) h dX7_handles_114 (by decide) (fun _ => ?_) (fun q => absurd hc12 q)
          refine r_iconst (pc := 121) (v := 0) h dX7_handles_121 (by decide) ?_
          refine r_istore (pc := 122) (L' := [some (.inr 0), none, some (.inl l2), some (.inl l3), some (.inl 0), some (.inl l5)]) h dX7_handles_122 (by decide) rfl ?_
          refine r_iinc (pc := 124) (v := (l5 + 1)) (L' := [some (.inr 0), none, some (.inl l2), some (.inl l3), some (.inl 0), some (.inl (l5 + 1))]) h dX7_handles_124 rfl rfl (by decide) rfl ?_
          refine r_goto (pc := 127) (tgt := 82) h dX7_handles_127 (by decide) ?_
          exact ih _ _ _ _ _ hf
        · refine r_icmp_eq (pc := 114) (tgt := 121) h dX7_handles_114 (by decide) (fun q => absurd q hc12) (fun _ => ?_)
          refine r_iconst (pc := 117) (v := 1) h dX7_handles_117 (by decide) ?_
          refine r_goto (pc := 118) (tgt := 122) h dX7_handles_118 (by decide) ?_
          refine r_istore (pc := 122) (L' := [some (.inr 0), none, some (.inl l2), some (.inl l3), some (.inl 1), some (.inl l5)]) h dX7_handles_122 (by decide) rfl ?_
          refine r_iinc (pc := 124) (v := (l5 + 1)) (L' := [some (.inr 0), none, some (.inl l2), some (.inl l3), some (.inl 1), some (.inl (l5 + 1))]) h dX7_handles_124 rfl rfl (by decide) rfl ?_
          refine r_goto (pc := 127) (tgt := 82) h dX7_handles_127 (by decide) ?_
          exact ih _ _ _ _ _ hf
set_option maxRecDepth 100000 in
set_option maxHeartbeats 4000000 in
theorem w_X7_handles_11 {K : Kx} {E : Ex} (h : Ok shM K E RX7 cX7_handles 6 rm_X7_handles) {r : Int32 × St} (hr : RetZ shM K E cX7_handles 6 r.1 r.2) (u : St) (l1 s0 : Int32) (hf : f_X7_handles_11 u l1 s0 = some r) : Vd shM K E 6 11 [some (.inr 0), some (.inl l1), none, none, none, none] [.inl s0] u := by
  refine r_istore_n (pc := 11) (L' := [some (.inr 0), some (.inl l1), some (.inl s0), none, none, none]) h dX7_handles_11 (by decide) rfl ?_
  refine r_aload_n (pc := 12) h dX7_handles_12 rfl ?_
  refine r_iload_n (pc := 13) h dX7_handles_13 rfl ?_
  refine p_b hf (fun q13 e14 hf => ?_)
  refine r_cVi (pc := 14) (k := 0) (st := []) h [.inl s0] cv_X7_isPiece wm_X7_108 (c_X7_isPiece e14) ⟨rfl, rfl, Nat.le_of_ble_eq_true rfl, Nat.le_of_ble_eq_true rfl⟩ hshM_0 rfl rfl (Nat.le_of_ble_eq_true rfl) dX7_handles_14 ?_
  refine p_ite hf (fun hc15 hf => ?_) (fun hc15 hf => ?_)
  · refine r_if_ne (pc := 17) (tgt := 22) h dX7_handles_17 (by decide) (fun q => absurd hc15 q) (fun _ => ?_)
    refine r_iconst (pc := 20) (v := 0) h dX7_handles_20 (by decide) ?_
    have hf := Option.some.inj hf
    subst hf
    exact hr 21 _ dX7_handles_21 z_0
  · refine r_if_ne (pc := 17) (tgt := 22) h dX7_handles_17 (by decide) (fun _ => ?_) (fun q => absurd q hc15)
    refine r_aload_n (pc := 22) h dX7_handles_22 rfl ?_
    refine r_iload_n (pc := 23) h dX7_handles_23 rfl ?_
    refine p_b hf (fun q16 e17 hf => ?_)
    refine r_cVi (pc := 24) (k := 0) (st := []) h [.inl s0] cv_X7_bodyPlace wm_X7_201 (c_X7_bodyPlace e17) ⟨rfl, rfl, Nat.le_of_ble_eq_true rfl, Nat.le_of_ble_eq_true rfl⟩ hshM_0 rfl rfl (Nat.le_of_ble_eq_true rfl) dX7_handles_24 ?_
    refine r_istore_n (pc := 27) (L' := [some (.inr 0), some (.inl l1), some (.inl s0), some (.inl q16), none, none]) h dX7_handles_27 (by decide) rfl ?_
    refine r_iload_n (pc := 28) h dX7_handles_28 rfl ?_
    refine p_ite hf (fun hc18 hf => ?_) (fun hc18 hf => ?_)
    · refine r_if_lt (pc := 29) (tgt := 66) h dX7_handles_29 (by decide) (fun _ => ?_) (fun q => absurd hc18 q)
      refine r_iload_n (pc := 66) h dX7_handles_66 rfl ?_
      refine p_ite hf (fun hc19 hf => ?_) (fun hc19 hf => ?_)
      · refine r_if_lt (pc := 67) (tgt := 74) h dX7_handles_67 (by decide) (fun _ => ?_) (fun q => absurd hc19 q)
        refine r_iconst (pc := 74) (v := 0) h dX7_handles_74 (by decide) ?_
        refine r_istore (pc := 75) (L' := [some (.inr 0), some (.inl l1), some (.inl s0), some (.inl q16), some (.inl 0), none]) h dX7_handles_75 (by decide) rfl ?_
        refine r_iload_n (pc := 77) h dX7_handles_77 rfl ?_
        refine r_iconst (pc := 78) (v := 1) h dX7_handles_78 (by decide) ?_
        refine r_iadd (pc := 79) h dX7_handles_79 ?_
        refine r_istore (pc := 80) (L' := [some (.inr 0), some (.inl l1), some (.inl s0), some (.inl q16), some (.inl 0), some (.inl (q16 + 1))]) h dX7_handles_80 (by decide) rfl ?_
        refine r_le [some (.inr 0), none, some (.inl s0), some (.inl q16), some (.inl 0), some (.inl (q16 + 1))] ⟨rfl, ⟨rfl, ⟨rfl, ⟨rfl, ⟨rfl, trivial⟩⟩⟩⟩⟩ ?_
        exact w_X7_handles_82 h hr FU _ _ _ _ _ hf
      · refine r_if_lt (pc := 67) (tgt := 74) h dX7_handles_67 (by decide) (fun q => absurd q hc19) (fun _ => ?_)
        refine r_iconst (pc := 70) (v := 1) h dX7_handles_70 (by decide) ?_
        refine r_goto (pc := 71) (tgt := 75) h dX7_handles_71 (by decide) ?_
        refine r_istore (pc := 75) (L' := [some (.inr 0), some (.inl l1), some (.inl s0), some (.inl q16), some (.inl 1), none]) h dX7_handles_75 (by decide) rfl ?_
        refine r_iload_n (pc := 77) h dX7_handles_77 rfl ?_
        refine r_iconst (pc := 78) (v := 1) h dX7_handles_78 (by decide) ?_
        refine r_iadd (pc := 79) h dX7_handles_79 ?_
        refine r_istore (pc := 80) (L' := [some (.inr 0), some (.inl l1), some (.inl s0), some (.inl q16), some (.inl 1), some (.inl (q16 + 1))]) h dX7_handles_80 (by decide) rfl ?_
        refine r_le [some (.inr 0), none, some (.inl s0), some (.inl q16), some (.inl 1), some (.inl (q16 + 1))] ⟨rfl, ⟨rfl, ⟨rfl, ⟨rfl, ⟨rfl, trivial⟩⟩⟩⟩⟩ ?_
        exact w_X7_handles_82 h hr FU _ _ _ _ _ hf
    · refine r_if_lt (pc := 29) (tgt := 66) h dX7_handles_29 (by decide) (fun q => absurd q hc18) (fun _ => ?_)
      refine r_iload_n (pc := 32) h dX7_handles_32 rfl ?_
      refine p_ite hf (fun hc20 hf => ?_) (fun hc20 hf => ?_)
      · refine r_if_ge (pc := 33) (tgt := 56) h dX7_handles_33 (by decide) (fun _ => ?_) (fun q => absurd hc20 q)
        refine r_iload_n (pc := 56) h dX7_handles_56 rfl ?_
        refine p_ite hf (fun hc21 hf => ?_) (fun hc21 hf => ?_)
        · refine r_if_ge (pc := 57) (tgt := 64) h dX7_handles_57 (by decide) (fun _ => ?_) (fun q => absurd hc21 q)
          refine r_iconst (pc := 64) (v := 0) h dX7_handles_64 (by decide) ?_
          have hf := Option.some.inj hf
          subst hf
          exact hr 65 _ dX7_handles_65 z_0
        · refine r_if_ge (pc := 57) (tgt := 64) h dX7_handles_57 (by decide) (fun q => absurd q hc21) (fun _ => ?_)
          refine r_iconst (pc := 60) (v := 1) h dX7_handles_60 (by decide) ?_
          refine r_goto (pc := 61) (tgt := 65) h dX7_handles_61 (by decide) ?_
          have hf := Option.some.inj hf
          subst hf
          exact hr 65 _ dX7_handles_65 z_1
      · refine r_if_ge (pc := 33) (tgt := 56) h dX7_handles_33 (by decide) (fun q => absurd q hc20) (fun _ => ?_)
        refine r_aload_n (pc := 36) h dX7_handles_36 rfl ?_
        refine gf_X7_93 (pc := 37) h dX7_handles_37 ?_
        refine r_aload_n (pc := 40) h dX7_handles_40 rfl ?_
        refine gf_X7_198 (pc := 41) (v := (u 0 36)) h rfl dX7_handles_41 ?_
        refine r_iload_n (pc := 44) h dX7_handles_44 rfl ?_
        refine p_g hf (fun hi22 hf => ?_)
        refine r_iast (pc := 45) (k := 27) h hshM_27 hi22 dX7_handles_45 ?_
        refine r_aload_n (pc := 46) h dX7_handles_46 rfl ?_
        refine r_dup (pc := 47) h dX7_handles_47 ?_
        refine gf_X7_198 (pc := 48) (v := (u 0 36)) h rfl dX7_handles_48 ?_
        refine r_iconst (pc := 51) (v := 1) h dX7_handles_51 (by decide) ?_
        refine r_iadd (pc := 52) h dX7_handles_52 ?_
        refine pf_X7_198 (pc := 53) h dX7_handles_53 ?_
        refine r_iload_n (pc := 56) h dX7_handles_56 rfl ?_
        refine p_ite hf (fun hc23 hf => ?_) (fun hc23 hf => ?_)
        · refine r_if_ge (pc := 57) (tgt := 64) h dX7_handles_57 (by decide) (fun _ => ?_) (fun q => absurd hc23 q)
          refine r_iconst (pc := 64) (v := 0) h dX7_handles_64 (by decide) ?_
          have hf := Option.some.inj hf
          subst hf
          exact hr 65 _ dX7_handles_65 z_0
        · refine r_if_ge (pc := 57) (tgt := 64) h dX7_handles_57 (by decide) (fun q => absurd q hc23) (fun _ => ?_)
          refine r_iconst (pc := 60) (v := 1) h dX7_handles_60 (by decide) ?_
          refine r_goto (pc := 61) (tgt := 65) h dX7_handles_61 (by decide) ?_
          have hf := Option.some.inj hf
          subst hf
          exact hr 65 _ dX7_handles_65 z_1
set_option maxRecDepth 100000 in
set_option maxHeartbeats 4000000 in
theorem w_X7_handles_0 {K : Kx} {E : Ex} (h : Ok shM K E RX7 cX7_handles 6 rm_X7_handles) {r : Int32 × St} (hr : RetZ shM K E cX7_handles 6 r.1 r.2) (u : St) (l1 : Int32) (hf : f_X7_handles u l1 = some r) : Vd shM K E 6 0 [some (.inr 0), some (.inl l1), none, none, none, none] [] u := by
  refine r_iload_n (pc := 0) h dX7_handles_0 rfl ?_
  refine p_ite hf (fun hc24 hf => ?_) (fun hc24 hf => ?_)
  · refine r_if_lt (pc := 1) (tgt := 8) h dX7_handles_1 (by decide) (fun _ => ?_) (fun q => absurd hc24 q)
    refine r_iconst (pc := 8) (v := (-1)) h dX7_handles_8 (by decide) ?_
    refine r_iload_n (pc := 9) h dX7_handles_9 rfl ?_
    refine r_isub (pc := 10) h dX7_handles_10 ?_
    exact w_X7_handles_11 h hr _ _ _ hf
  · refine r_if_lt (pc := 1) (tgt := 8) h dX7_handles_1 (by decide) (fun q => absurd q hc24) (fun _ => ?_)
    refine r_iload_n (pc := 4) h dX7_handles_4 rfl ?_
    refine r_goto (pc := 5) (tgt := 11) h dX7_handles_5 (by decide) ?_
    exact w_X7_handles_11 h hr _ _ _ hf
theorem c_X7_handles {u : St} {l1 : Int32} {r : Int32 × St} (hf : f_X7_handles u l1 = some r) : CtI shM yX7_handles cX7_handles 6 (some .boolean) rm_X7_handles [.inr 0, .inl l1] u r.1 r.2 := ct_Z (by decide +kernel) (Nat.le_of_ble_eq_true rfl) (fun K E h hr => w_X7_handles_0 h hr _ _ hf)
set_option maxRecDepth 100000 in
set_option maxHeartbeats 4000000 in
theorem w_X7_isWorn_62 {K : Kx} {E : Ex} (h : Ok shM K E RX7 cX7_isWorn 7 rm_X7_isWorn) {r : Int32} {u : St} (hr : RetZ shM K E cX7_isWorn 7 r u) {k21 : Int32 → Int32 → Int32 → Option (Int32)} (hk21 : ∀ (l1 l2 l3 : Int32), k21 l1 l2 l3 = some r → Vd shM K E 7 21 [some (.inr 0), some (.inl l1), some (.inl l2), some (.inl l3), none, none, none] [] u) : ∀ (n : Nat) (l1 l2 l3 l4 : Int32), f_X7_isWorn_62 k21 u n l1 l2 l3 l4 = some r → Vd shM K E 7 62 [some (.inr 0), some (.inl l1), some (.inl l2), some (.inl l3), some (.inl l4), none, none] [] u := by
  intro n
  induction n with
  | zero => intro l1 l2 l3 l4 hf; cases hf
  | succ n ih =>
    intro l1 l2 l3 l4 hf
    refine r_iload (pc := 62) h dX7_isWorn_62 rfl ?_
    refine r_iload_n (pc := 64) h dX7_isWorn_64 rfl ?_
    refine p_ite hf (fun hc1 hf => ?_) (fun hc1 hf => ?_)
    · refine r_icmp_ge (pc := 65) (tgt := 143) h dX7_isWorn_65 (by decide) (fun _ => ?_) (fun q => absurd hc1 q)
      refine r_iinc (pc := 143) (v := (l3 + 1)) (L' := [some (.inr 0), some (.inl l1), some (.inl l2), some (.inl (l3 + 1)), some (.inl l4), none, none]) h dX7_isWorn_143 rfl rfl (by decide) rfl ?_
      refine r_goto (pc := 146) (tgt := 21) h dX7_isWorn_146 (by decide) ?_
      refine r_le [some (.inr 0), some (.inl l1), some (.inl l2), some (.inl (l3 + 1)), none, none, none] ⟨rfl, ⟨rfl, ⟨rfl, ⟨rfl, trivial⟩⟩⟩⟩ ?_
      exact hk21 _ _ _ hf
    · refine r_icmp_ge (pc := 65) (tgt := 143) h dX7_isWorn_65 (by decide) (fun q => absurd q hc1) (fun _ => ?_)
      refine r_iload_n (pc := 68) h dX7_isWorn_68 rfl ?_
      refine p_ite hf (fun hc2 hf => ?_) (fun hc2 hf => ?_)
      · refine r_if_eq (pc := 69) (tgt := 143) h dX7_isWorn_69 (by decide) (fun _ => ?_) (fun q => absurd hc2 q)
        refine r_iinc (pc := 143) (v := (l3 + 1)) (L' := [some (.inr 0), some (.inl l1), some (.inl l2), some (.inl (l3 + 1)), some (.inl l4), none, none]) h dX7_isWorn_143 rfl rfl (by decide) rfl ?_
        refine r_goto (pc := 146) (tgt := 21) h dX7_isWorn_146 (by decide) ?_
        refine r_le [some (.inr 0), some (.inl l1), some (.inl l2), some (.inl (l3 + 1)), none, none, none] ⟨rfl, ⟨rfl, ⟨rfl, ⟨rfl, trivial⟩⟩⟩⟩ ?_
        exact hk21 _ _ _ hf
      · refine r_if_eq (pc := 69) (tgt := 143) h dX7_isWorn_69 (by decide) (fun q => absurd q hc2) (fun _ => ?_)
        refine r_aload_n (pc := 72) h dX7_isWorn_72 rfl ?_
        refine gf_X7_43 (pc := 73) h dX7_isWorn_73 ?_
        refine r_bipush (pc := 76) (v := 8) h dX7_isWorn_76 (by decide) ?_
        refine r_iload_n (pc := 78) h dX7_isWorn_78 rfl ?_
        refine r_imul (pc := 79) h dX7_isWorn_79 ?_
        refine r_iload_n (pc := 80) h dX7_isWorn_80 rfl ?_
        refine r_iadd (pc := 81) h dX7_isWorn_81 ?_
        refine p_g hf (fun hi3 hf => ?_)
        refine r_iald (pc := 82) (k := 12) (v := (u 12 ((8 * l1) + l3).toNatClampNeg)) h hshM_12 hi3 rfl dX7_isWorn_82 ?_
        refine r_istore (pc := 83) (L' := [some (.inr 0), some (.inl l1), some (.inl l2), some (.inl l3), some (.inl l4), some (.inl (u 12 ((8 * l1) + l3).toNatClampNeg)), none]) h dX7_isWorn_83 (by decide) rfl ?_
        refine r_aload_n (pc := 85) h dX7_isWorn_85 rfl ?_
        refine gf_X7_43 (pc := 86) h dX7_isWorn_86 ?_
        refine r_bipush (pc := 89) (v := 8) h dX7_isWorn_89 (by decide) ?_
        refine r_iload_n (pc := 91) h dX7_isWorn_91 rfl ?_
        refine r_imul (pc := 92) h dX7_isWorn_92 ?_
        refine r_iload (pc := 93) h dX7_isWorn_93 rfl ?_
        refine r_iadd (pc := 95) h dX7_isWorn_95 ?_
        refine p_g hf (fun hi4 hf => ?_)
        refine r_iald (pc := 96) (k := 12) (v := (u 12 ((8 * l1) + l4).toNatClampNeg)) h hshM_12 hi4 rfl dX7_isWorn_96 ?_
        refine r_istore (pc := 97) (L' := [some (.inr 0), some (.inl l1), some (.inl l2), some (.inl l3), some (.inl l4), some (.inl (u 12 ((8 * l1) + l3).toNatClampNeg)), some (.inl (u 12 ((8 * l1) + l4).toNatClampNeg))]) h dX7_isWorn_97 (by decide) rfl ?_
        refine r_aload_n (pc := 99) h dX7_isWorn_99 rfl ?_
        refine gf_X7_13 (pc := 100) h dX7_isWorn_100 ?_
        refine r_iload (pc := 103) h dX7_isWorn_103 rfl ?_
        refine p_g hf (fun hi5 hf => ?_)
        refine r_iald (pc := 105) (k := 2) (v := (u 2 (u 12 ((8 * l1) + l3).toNatClampNeg).toNatClampNeg)) h hshM_2 hi5 rfl dX7_isWorn_105 ?_
        refine r_aload_n (pc := 106) h dX7_isWorn_106 rfl ?_
        refine gf_X7_13 (pc := 107) h dX7_isWorn_107 ?_
        refine r_iload (pc := 110) h dX7_isWorn_110 rfl ?_
        refine p_g hf (fun hi6 hf => ?_)
        refine r_iald (pc := 112) (k := 2) (v := (u 2 (u 12 ((8 * l1) + l4).toNatClampNeg).toNatClampNeg)) h hshM_2 hi6 rfl dX7_isWorn_112 ?_
        refine p_ite hf (fun hc7 hf => ?_) (fun hc7 hf => ?_)
        · refine r_icmp_ne (pc := 113) (tgt := 131) h dX7_isWorn_113 (by decide) (fun q => absurd hc7 q) (fun _ => ?_)
          refine r_aload_n (pc := 116) h dX7_isWorn_116 rfl ?_
          refine r_iload (pc := 117) h dX7_isWorn_117 rfl ?_
          refine p_b hf (fun q8 e9 hf => ?_)
          refine r_cVi (pc := 119) (k := 0) (st := []) h [.inl (u 12 ((8 * l1) + l4).toNatClampNeg)] cv_X7_bodyPlace wm_X7_201 (c_X7_bodyPlace e9) ⟨rfl, rfl, Nat.le_of_ble_eq_true rfl, Nat.le_of_ble_eq_true rfl⟩ hshM_0 rfl rfl (Nat.le_of_ble_eq_true rfl) dX7_isWorn_119 ?_
          refine r_aload_n (pc := 122) h dX7_isWorn_122 rfl ?_
          refine r_iload (pc := 123) h dX7_isWorn_123 rfl ?_
          refine p_b hf (fun q10 e11 hf => ?_)
          refine r_cVi (pc := 125) (k := 0) (st := [.inl q8]) h [.inl (u 12 ((8 * l1) + l3).toNatClampNeg)] cv_X7_bodyPlace wm_X7_201 (c_X7_bodyPlace e11) ⟨rfl, rfl, Nat.le_of_ble_eq_true rfl, Nat.le_of_ble_eq_true rfl⟩ hshM_0 rfl rfl (Nat.le_of_ble_eq_true rfl) dX7_isWorn_125 ?_
          refine p_ite hf (fun hc12 hf => ?_) (fun hc12 hf => ?_)
          · refine r_icmp_ge (pc := 128) (tgt := 135) h dX7_isWorn_128 (by decide) (fun _ => ?_) (fun q => absurd hc12 q)
            refine r_iconst (pc := 135) (v := 0) h dX7_isWorn_135 (by decide) ?_
            refine r_istore_n (pc := 136) (L' := [some (.inr 0), some (.inl l1), some (.inl 0), some (.inl l3), some (.inl l4), some (.inl (u 12 ((8 * l1) + l3).toNatClampNeg)), some (.inl (u 12 ((8 * l1) + l4).toNatClampNeg))]) h dX7_isWorn_136 (by decide) rfl ?_
            refine r_iinc (pc := 137) (v := (l4 + 1)) (L' := [some (.inr 0), some (.inl l1), some (.inl 0), some (.inl l3), some (.inl (l4 + 1)), some (.inl (u 12 ((8 * l1) + l3).toNatClampNeg)), some (.inl (u 12 ((8 * l1) + l4).toNatClampNeg))]) h dX7_isWorn_137 rfl rfl (by decide) rfl ?_
            refine r_goto (pc := 140) (tgt := 62) h dX7_isWorn_140 (by decide) ?_
            refine r_le [some (.inr 0), some (.inl l1), some (.inl 0), some (.inl l3), some (.inl (l4 + 1)), none, none] ⟨rfl, ⟨rfl, ⟨rfl, ⟨rfl, ⟨rfl, trivial⟩⟩⟩⟩⟩ ?_
            exact ih _ _ _ _ hf
          · refine r_icmp_ge (pc := 128) (tgt := 135) h dX7_isWorn_128 (by decide) (fun q => absurd q hc12) (fun _ => ?_)
            refine r_iconst (pc := 131) (v := 1) h dX7_isWorn_131 (by decide) ?_
            refine r_goto (pc := 132) (tgt := 136) h dX7_isWorn_132 (by decide) ?_
            refine r_istore_n (pc := 136) (L' := [some (.inr 0), some (.inl l1), some (.inl 1), some (.inl l3), some (.inl l4), some (.inl (u 12 ((8 * l1) + l3).toNatClampNeg)), some (.inl (u 12 ((8 * l1) + l4).toNatClampNeg))]) h dX7_isWorn_136 (by decide) rfl ?_
            refine r_iinc (pc := 137) (v := (l4 + 1)) (L' := [some (.inr 0), some (.inl l1), some (.inl 1), some (.inl l3), some (.inl (l4 + 1)), some (.inl (u 12 ((8 * l1) + l3).toNatClampNeg)), some (.inl (u 12 ((8 * l1) + l4).toNatClampNeg))]) h dX7_isWorn_137 rfl rfl (by decide) rfl ?_
            refine r_goto (pc := 140) (tgt := 62) h dX7_isWorn_140 (by decide) ?_
            refine r_le [some (.inr 0), some (.inl l1), some (.inl 1), some (.inl l3), some (.inl (l4 + 1)), none, none] ⟨rfl, ⟨rfl, ⟨rfl, ⟨rfl, ⟨rfl, trivial⟩⟩⟩⟩⟩ ?_
            exact ih _ _ _ _ hf
        · refine r_icmp_ne (pc := 113) (tgt := 131) h dX7_isWorn_113 (by decide) (fun _ => ?_) (fun q => absurd q hc7)
          refine r_iconst (pc := 131) (v := 1) h dX7_isWorn_131 (by decide) ?_
          refine r_goto (pc := 132) (tgt := 136) h dX7_isWorn_132 (by decide) ?_
          refine r_istore_n (pc := 136) (L' := [some (.inr 0), some (.inl l1), some (.inl 1), some (.inl l3), some (.inl l4), some (.inl (u 12 ((8 * l1) + l3).toNatClampNeg)), some (.inl (u 12 ((8 * l1) + l4).toNatClampNeg))]) h dX7_isWorn_136 (by decide) rfl ?_
          refine r_iinc (pc := 137) (v := (l4 + 1)) (L' := [some (.inr 0), some (.inl l1), some (.inl 1), some (.inl l3), some (.inl (l4 + 1)), some (.inl (u 12 ((8 * l1) + l3).toNatClampNeg)), some (.inl (u 12 ((8 * l1) + l4).toNatClampNeg))]) h dX7_isWorn_137 rfl rfl (by decide) rfl ?_
          refine r_goto (pc := 140) (tgt := 62) h dX7_isWorn_140 (by decide) ?_
          refine r_le [some (.inr 0), some (.inl l1), some (.inl 1), some (.inl l3), some (.inl (l4 + 1)), none, none] ⟨rfl, ⟨rfl, ⟨rfl, ⟨rfl, ⟨rfl, trivial⟩⟩⟩⟩⟩ ?_
          exact ih _ _ _ _ hf
set_option maxRecDepth 100000 in
set_option maxHeartbeats 4000000 in
theorem w_X7_isWorn_21 {K : Kx} {E : Ex} (h : Ok shM K E RX7 cX7_isWorn 7 rm_X7_isWorn) {r : Int32} {u : St} (hr : RetZ shM K E cX7_isWorn 7 r u) : ∀ (n : Nat) (l1 l2 l3 : Int32), f_X7_isWorn_21 u n l1 l2 l3 = some r → Vd shM K E 7 21 [some (.inr 0), some (.inl l1), some (.inl l2), some (.inl l3), none, none, none] [] u := by
  intro n
  induction n with
  | zero => intro l1 l2 l3 hf; cases hf
  | succ n ih =>
    intro l1 l2 l3 hf
    refine r_iload_n (pc := 21) h dX7_isWorn_21 rfl ?_
    refine r_aload_n (pc := 22) h dX7_isWorn_22 rfl ?_
    refine gf_X7_40 (pc := 23) h dX7_isWorn_23 ?_
    refine r_iload_n (pc := 26) h dX7_isWorn_26 rfl ?_
    refine p_g hf (fun hi13 hf => ?_)
    refine r_iald (pc := 27) (k := 11) (v := (u 11 l1.toNatClampNeg)) h hshM_11 hi13 rfl dX7_isWorn_27 ?_
    refine p_ite hf (fun hc14 hf => ?_) (fun hc14 hf => ?_)
    · refine r_icmp_ge (pc := 28) (tgt := 149) h dX7_isWorn_28 (by decide) (fun _ => ?_) (fun q => absurd hc14 q)
      refine r_iload_n (pc := 149) h dX7_isWorn_149 rfl ?_
      refine p_gp hf (fun hc15 hf => ?_)
      have hf := Option.some.inj hf
      subst hf
      exact hr 150 _ dX7_isWorn_150 (z01 hc15)
    · refine r_icmp_ge (pc := 28) (tgt := 149) h dX7_isWorn_28 (by decide) (fun q => absurd q hc14) (fun _ => ?_)
      refine r_iload_n (pc := 31) h dX7_isWorn_31 rfl ?_
      refine p_ite hf (fun hc16 hf => ?_) (fun hc16 hf => ?_)
      · refine r_if_eq (pc := 32) (tgt := 149) h dX7_isWorn_32 (by decide) (fun _ => ?_) (fun q => absurd hc16 q)
        refine r_iload_n (pc := 149) h dX7_isWorn_149 rfl ?_
        refine p_gp hf (fun hc17 hf => ?_)
        have hf := Option.some.inj hf
        subst hf
        exact hr 150 _ dX7_isWorn_150 (z01 hc17)
      · refine r_if_eq (pc := 32) (tgt := 149) h dX7_isWorn_32 (by decide) (fun q => absurd q hc16) (fun _ => ?_)
        refine r_aload_n (pc := 35) h dX7_isWorn_35 rfl ?_
        refine r_aload_n (pc := 36) h dX7_isWorn_36 rfl ?_
        refine gf_X7_43 (pc := 37) h dX7_isWorn_37 ?_
        refine r_bipush (pc := 40) (v := 8) h dX7_isWorn_40 (by decide) ?_
        refine r_iload_n (pc := 42) h dX7_isWorn_42 rfl ?_
        refine r_imul (pc := 43) h dX7_isWorn_43 ?_
        refine r_iload_n (pc := 44) h dX7_isWorn_44 rfl ?_
        refine r_iadd (pc := 45) h dX7_isWorn_45 ?_
        refine p_g hf (fun hi18 hf => ?_)
        refine r_iald (pc := 46) (k := 12) (v := (u 12 ((8 * l1) + l3).toNatClampNeg)) h hshM_12 hi18 rfl dX7_isWorn_46 ?_
        refine p_b hf (fun q19 e20 hf => ?_)
        refine r_cVi (pc := 47) (k := 0) (st := []) h [.inl (u 12 ((8 * l1) + l3).toNatClampNeg)] cv_X7_bodyPlace wm_X7_201 (c_X7_bodyPlace e20) ⟨rfl, rfl, Nat.le_of_ble_eq_true rfl, Nat.le_of_ble_eq_true rfl⟩ hshM_0 rfl rfl (Nat.le_of_ble_eq_true rfl) dX7_isWorn_47 ?_
        refine p_ite hf (fun hc21 hf => ?_) (fun hc21 hf => ?_)
        · refine r_if_lt (pc := 50) (tgt := 57) h dX7_isWorn_50 (by decide) (fun _ => ?_) (fun q => absurd hc21 q)
          refine r_iconst (pc := 57) (v := 0) h dX7_isWorn_57 (by decide) ?_
          refine r_istore_n (pc := 58) (L' := [some (.inr 0), some (.inl l1), some (.inl 0), some (.inl l3), none, none, none]) h dX7_isWorn_58 (by decide) rfl ?_
          refine r_iconst (pc := 59) (v := 0) h dX7_isWorn_59 (by decide) ?_
          refine r_istore (pc := 60) (L' := [some (.inr 0), some (.inl l1), some (.inl 0), some (.inl l3), some (.inl 0), none, none]) h dX7_isWorn_60 (by decide) rfl ?_
          exact w_X7_isWorn_62 h hr (fun x0 x1 x2 e9 => ih x0 x1 x2 e9) FU _ _ _ _ hf
        · refine r_if_lt (pc := 50) (tgt := 57) h dX7_isWorn_50 (by decide) (fun q => absurd q hc21) (fun _ => ?_)
          refine r_iconst (pc := 53) (v := 1) h dX7_isWorn_53 (by decide) ?_
          refine r_goto (pc := 54) (tgt := 58) h dX7_isWorn_54 (by decide) ?_
          refine r_istore_n (pc := 58) (L' := [some (.inr 0), some (.inl l1), some (.inl 1), some (.inl l3), none, none, none]) h dX7_isWorn_58 (by decide) rfl ?_
          refine r_iconst (pc := 59) (v := 0) h dX7_isWorn_59 (by decide) ?_
          refine r_istore (pc := 60) (L' := [some (.inr 0), some (.inl l1), some (.inl 1), some (.inl l3), some (.inl 0), none, none]) h dX7_isWorn_60 (by decide) rfl ?_
          exact w_X7_isWorn_62 h hr (fun x0 x1 x2 e9 => ih x0 x1 x2 e9) FU _ _ _ _ hf
set_option maxRecDepth 100000 in
set_option maxHeartbeats 4000000 in
theorem w_X7_isWorn_0 {K : Kx} {E : Ex} (h : Ok shM K E RX7 cX7_isWorn 7 rm_X7_isWorn) {r : Int32} {u : St} (hr : RetZ shM K E cX7_isWorn 7 r u) (l1 : Int32) (hf : f_X7_isWorn u l1 = some r) : Vd shM K E 7 0 [some (.inr 0), some (.inl l1), none, none, none, none, none] [] u := by
  refine r_aload_n (pc := 0) h dX7_isWorn_0 rfl ?_
  refine gf_X7_198 (pc := 1) (v := (u 0 36)) h rfl dX7_isWorn_1 ?_
  refine r_aload_n (pc := 4) h dX7_isWorn_4 rfl ?_
  refine gf_X7_40 (pc := 5) h dX7_isWorn_5 ?_
  refine r_iload_n (pc := 8) h dX7_isWorn_8 rfl ?_
  refine p_g hf (fun hi22 hf => ?_)
  refine r_iald (pc := 9) (k := 11) (v := (u 11 l1.toNatClampNeg)) h hshM_11 hi22 rfl dX7_isWorn_9 ?_
  refine p_ite hf (fun hc23 hf => ?_) (fun hc23 hf => ?_)
  · refine r_icmp_ne (pc := 10) (tgt := 17) h dX7_isWorn_10 (by decide) (fun q => absurd hc23 q) (fun _ => ?_)
    refine r_iconst (pc := 13) (v := 1) h dX7_isWorn_13 (by decide) ?_
    refine r_goto (pc := 14) (tgt := 18) h dX7_isWorn_14 (by decide) ?_
    refine r_istore_n (pc := 18) (L' := [some (.inr 0), some (.inl l1), some (.inl 1), none, none, none, none]) h dX7_isWorn_18 (by decide) rfl ?_
    refine r_iconst (pc := 19) (v := 0) h dX7_isWorn_19 (by decide) ?_
    refine r_istore_n (pc := 20) (L' := [some (.inr 0), some (.inl l1), some (.inl 1), some (.inl 0), none, none, none]) h dX7_isWorn_20 (by decide) rfl ?_
    exact w_X7_isWorn_21 h hr FU _ _ _ hf
  · refine r_icmp_ne (pc := 10) (tgt := 17) h dX7_isWorn_10 (by decide) (fun _ => ?_) (fun q => absurd q hc23)
    refine r_iconst (pc := 17) (v := 0) h dX7_isWorn_17 (by decide) ?_
    refine r_istore_n (pc := 18) (L' := [some (.inr 0), some (.inl l1), some (.inl 0), none, none, none, none]) h dX7_isWorn_18 (by decide) rfl ?_
    refine r_iconst (pc := 19) (v := 0) h dX7_isWorn_19 (by decide) ?_
    refine r_istore_n (pc := 20) (L' := [some (.inr 0), some (.inl l1), some (.inl 0), some (.inl 0), none, none, none]) h dX7_isWorn_20 (by decide) rfl ?_
    exact w_X7_isWorn_21 h hr FU _ _ _ hf
theorem c_X7_isWorn {u : St} {l1 : Int32} {r : Int32} (hf : f_X7_isWorn u l1 = some r) : CtI shM yX7_isWorn cX7_isWorn 7 (some .boolean) rm_X7_isWorn [.inr 0, .inl l1] u r u := ct_Z (by decide +kernel) (Nat.le_of_ble_eq_true rfl) (fun K E h hr => w_X7_isWorn_0 h hr _ hf)
set_option maxRecDepth 100000 in
set_option maxHeartbeats 4000000 in
theorem w_X7_check_162 {K : Kx} {E : Ex} (h : Ok shM K E RX7 cX7_check 6 rm_X7_check) {r : Int32 × St} (hr : RetI shM K E cX7_check 6 r.1 r.2) : ∀ (n : Nat) (u : St) (l2 l4 l5 : Int32), f_X7_check_162 n u l2 l4 l5 = some r → Vd shM K E 6 162 [some (.inr 0), none, some (.inl l2), none, some (.inl l4), some (.inl l5)] [] u := by
  intro n
  induction n with
  | zero => intro u l2 l4 l5 hf; cases hf
  | succ n ih =>
    intro u l2 l4 l5 hf
    refine r_iload (pc := 162) h dX7_check_162 rfl ?_
    refine r_iload (pc := 164) h dX7_check_164 rfl ?_
    refine p_ite hf (fun hc1 hf => ?_) (fun hc1 hf => ?_)
    · refine r_icmp_ge (pc := 166) (tgt := 194) h dX7_check_166 (by decide) (fun _ => ?_) (fun q => absurd hc1 q)
      refine r_aload_n (pc := 194) h dX7_check_194 rfl ?_
      refine r_iload_n (pc := 195) h dX7_check_195 rfl ?_
      refine p_b hf (fun q2 e3 hf => ?_)
      refine r_cVi (pc := 196) (k := 0) (st := []) h [.inl l2] cv_X7_isWorn wm_X7_207 (c_X7_isWorn e3) ⟨rfl, rfl, Nat.le_of_ble_eq_true rfl, Nat.le_of_ble_eq_true rfl⟩ hshM_0 rfl rfl (Nat.le_of_ble_eq_true rfl) dX7_check_196 ?_
      refine p_ite hf (fun hc4 hf => ?_) (fun hc4 hf => ?_)
      · refine r_if_eq (pc := 199) (tgt := 206) h dX7_check_199 (by decide) (fun _ => ?_) (fun q => absurd hc4 q)
        refine r_bipush (pc := 206) (v := 99) h dX7_check_206 (by decide) ?_
        have hf := Option.some.inj hf
        subst hf
        exact hr 208 _ dX7_check_208
      · refine r_if_eq (pc := 199) (tgt := 206) h dX7_check_199 (by decide) (fun q => absurd q hc4) (fun _ => ?_)
        refine r_iconst (pc := 202) (v := 0) h dX7_check_202 (by decide) ?_
        refine r_goto (pc := 203) (tgt := 208) h dX7_check_203 (by decide) ?_
        have hf := Option.some.inj hf
        subst hf
        exact hr 208 _ dX7_check_208
    · refine r_icmp_ge (pc := 166) (tgt := 194) h dX7_check_166 (by decide) (fun q => absurd q hc1) (fun _ => ?_)
      refine r_aload_n (pc := 169) h dX7_check_169 rfl ?_
      refine r_aload_n (pc := 170) h dX7_check_170 rfl ?_
      refine gf_X7_71 (pc := 171) h dX7_check_171 ?_
      refine r_iload (pc := 174) h dX7_check_174 rfl ?_
      refine p_g hf (fun hi5 hf => ?_)
      refine r_iald (pc := 176) (k := 20) (v := (u 20 l5.toNatClampNeg)) h hshM_20 hi5 rfl dX7_check_176 ?_
      refine p_b hf (fun q6 e7 hf => ?_)
      refine r_cVi (pc := 177) (k := 0) (st := []) h [.inl (u 20 l5.toNatClampNeg)] cv_X7_handles wm_X7_204 (c_X7_handles e7) ⟨rfl, rfl, Nat.le_of_ble_eq_true rfl, Nat.le_of_ble_eq_true rfl⟩ hshM_0 rfl rfl (Nat.le_of_ble_eq_true rfl) dX7_check_177 ?_
      refine p_ite hf (fun hc8 hf => ?_) (fun hc8 hf => ?_)
      · refine r_if_ne (pc := 180) (tgt := 188) h dX7_check_180 (by decide) (fun q => absurd hc8 q) (fun _ => ?_)
        refine r_iconst (pc := 183) (v := 1) h dX7_check_183 (by decide) ?_
        refine r_iload (pc := 184) h dX7_check_184 rfl ?_
        refine r_iadd (pc := 186) h dX7_check_186 ?_
        have hf := Option.some.inj hf
        subst hf
        exact hr 187 _ dX7_check_187
      · refine r_if_ne (pc := 180) (tgt := 188) h dX7_check_180 (by decide) (fun _ => ?_) (fun q => absurd q hc8)
        refine r_iinc (pc := 188) (v := (l5 + 1)) (L' := [some (.inr 0), none, some (.inl l2), none, some (.inl l4), some (.inl (l5 + 1))]) h dX7_check_188 rfl rfl (by decide) rfl ?_
        refine r_goto (pc := 191) (tgt := 162) h dX7_check_191 (by decide) ?_
        exact ih _ _ _ _ hf
set_option maxRecDepth 100000 in
set_option maxHeartbeats 4000000 in
theorem w_X7_check_111 {K : Kx} {E : Ex} (h : Ok shM K E RX7 cX7_check 6 rm_X7_check) {r : Int32 × St} (hr : RetI shM K E cX7_check 6 r.1 r.2) : ∀ (n : Nat) (u : St) (l1 l2 l4 l5 : Int32), f_X7_check_111 n u l1 l2 l4 l5 = some r → Vd shM K E 6 111 [some (.inr 0), some (.inl l1), some (.inl l2), none, some (.inl l4), some (.inl l5)] [] u := by
  intro n
  induction n with
  | zero => intro u l1 l2 l4 l5 hf; cases hf
  | succ n ih =>
    intro u l1 l2 l4 l5 hf
    refine r_iload (pc := 111) h dX7_check_111 rfl ?_
    refine r_aload_n (pc := 113) h dX7_check_113 rfl ?_
    refine gf_X7_40 (pc := 114) h dX7_check_114 ?_
    refine r_iload_n (pc := 117) h dX7_check_117 rfl ?_
    refine p_g hf (fun hi9 hf => ?_)
    refine r_iald (pc := 118) (k := 11) (v := (u 11 l1.toNatClampNeg)) h hshM_11 hi9 rfl dX7_check_118 ?_
    refine p_ite hf (fun hc10 hf => ?_) (fun hc10 hf => ?_)
    · refine r_icmp_ge (pc := 119) (tgt := 159) h dX7_check_119 (by decide) (fun _ => ?_) (fun q => absurd hc10 q)
      refine r_iconst (pc := 159) (v := 0) h dX7_check_159 (by decide) ?_
      refine r_istore (pc := 160) (L' := [some (.inr 0), some (.inl l1), some (.inl l2), none, some (.inl l4), some (.inl 0)]) h dX7_check_160 (by decide) rfl ?_
      refine r_le [some (.inr 0), none, some (.inl l2), none, some (.inl l4), some (.inl 0)] ⟨rfl, ⟨rfl, ⟨rfl, ⟨rfl, trivial⟩⟩⟩⟩ ?_
      exact w_X7_check_162 h hr FU _ _ _ _ hf
    · refine r_icmp_ge (pc := 119) (tgt := 159) h dX7_check_119 (by decide) (fun q => absurd q hc10) (fun _ => ?_)
      refine r_aload_n (pc := 122) h dX7_check_122 rfl ?_
      refine gf_X7_93 (pc := 123) h dX7_check_123 ?_
      refine r_aload_n (pc := 126) h dX7_check_126 rfl ?_
      refine gf_X7_198 (pc := 127) (v := (u 0 36)) h rfl dX7_check_127 ?_
      refine r_aload_n (pc := 130) h dX7_check_130 rfl ?_
      refine gf_X7_43 (pc := 131) h dX7_check_131 ?_
      refine r_bipush (pc := 134) (v := 8) h dX7_check_134 (by decide) ?_
      refine r_iload_n (pc := 136) h dX7_check_136 rfl ?_
      refine r_imul (pc := 137) h dX7_check_137 ?_
      refine r_iload (pc := 138) h dX7_check_138 rfl ?_
      refine r_iadd (pc := 140) h dX7_check_140 ?_
      refine p_g hf (fun hi11 hf => ?_)
      refine r_iald (pc := 141) (k := 12) (v := (u 12 ((8 * l1) + l5).toNatClampNeg)) h hshM_12 hi11 rfl dX7_check_141 ?_
      refine p_g hf (fun hi12 hf => ?_)
      refine r_iast (pc := 142) (k := 27) h hshM_27 hi12 dX7_check_142 ?_
      refine r_aload_n (pc := 143) h dX7_check_143 rfl ?_
      refine r_dup (pc := 144) h dX7_check_144 ?_
      refine gf_X7_198 (pc := 145) (v := (u 0 36)) h rfl dX7_check_145 ?_
      refine r_iconst (pc := 148) (v := 1) h dX7_check_148 (by decide) ?_
      refine r_iadd (pc := 149) h dX7_check_149 ?_
      refine pf_X7_198 (pc := 150) h dX7_check_150 ?_
      refine r_iinc (pc := 153) (v := (l5 + 1)) (L' := [some (.inr 0), some (.inl l1), some (.inl l2), none, some (.inl l4), some (.inl (l5 + 1))]) h dX7_check_153 rfl rfl (by decide) rfl ?_
      refine r_goto (pc := 156) (tgt := 111) h dX7_check_156 (by decide) ?_
      exact ih _ _ _ _ _ hf
set_option maxRecDepth 100000 in
set_option maxHeartbeats 4000000 in
theorem w_X7_check_51 {K : Kx} {E : Ex} (h : Ok shM K E RX7 cX7_check 6 rm_X7_check) {r : Int32 × St} (hr : RetI shM K E cX7_check 6 r.1 r.2) : ∀ (n : Nat) (u : St) (l1 l2 l3 l4 l5 : Int32), f_X7_check_51 n u l1 l2 l3 l4 l5 = some r → Vd shM K E 6 51 [some (.inr 0), some (.inl l1), some (.inl l2), some (.inl l3), some (.inl l4), some (.inl l5)] [] u := by
  intro n
  induction n with
  | zero => intro u l1 l2 l3 l4 l5 hf; cases hf
  | succ n ih =>
    intro u l1 l2 l3 l4 l5 hf
    refine r_iload (pc := 51) h dX7_check_51 rfl ?_
    refine r_aload_n (pc := 53) h dX7_check_53 rfl ?_
    refine gf_X7_40 (pc := 54) h dX7_check_54 ?_
    refine r_iload_n (pc := 57) h dX7_check_57 rfl ?_
    refine p_g hf (fun hi13 hf => ?_)
    refine r_iald (pc := 58) (k := 11) (v := (u 11 l2.toNatClampNeg)) h hshM_11 hi13 rfl dX7_check_58 ?_
    refine p_ite hf (fun hc14 hf => ?_) (fun hc14 hf => ?_)
    · refine r_icmp_ge (pc := 59) (tgt := 108) h dX7_check_59 (by decide) (fun _ => ?_) (fun q => absurd hc14 q)
      refine r_iconst (pc := 108) (v := 0) h dX7_check_108 (by decide) ?_
      refine r_istore (pc := 109) (L' := [some (.inr 0), some (.inl l1), some (.inl l2), some (.inl l3), some (.inl l4), some (.inl 0)]) h dX7_check_109 (by decide) rfl ?_
      refine r_le [some (.inr 0), some (.inl l1), some (.inl l2), none, some (.inl l4), some (.inl 0)] ⟨rfl, ⟨rfl, ⟨rfl, ⟨rfl, ⟨rfl, trivial⟩⟩⟩⟩⟩ ?_
      exact w_X7_check_111 h hr FU _ _ _ _ _ hf
    · refine r_icmp_ge (pc := 59) (tgt := 108) h dX7_check_59 (by decide) (fun q => absurd q hc14) (fun _ => ?_)
      refine r_iload_n (pc := 62) h dX7_check_62 rfl ?_
      refine r_iload (pc := 63) h dX7_check_63 rfl ?_
      refine p_b hf (fun q15 e16 hf => ?_)
      refine r_cSi (pc := 65) (st := []) h [.inl l3, .inl l5] cs_X7_has wm_X7_119 (c_X7_has e16) ⟨rfl, rfl, Nat.le_of_ble_eq_true rfl, Nat.le_of_ble_eq_true rfl⟩ (Nat.le_of_ble_eq_true rfl) dX7_check_65 ?_
      refine p_ite hf (fun hc17 hf => ?_) (fun hc17 hf => ?_)
      · refine r_if_eq (pc := 68) (tgt := 102) h dX7_check_68 (by decide) (fun _ => ?_) (fun q => absurd hc17 q)
        refine r_iinc (pc := 102) (v := (l5 + 1)) (L' := [some (.inr 0), some (.inl l1), some (.inl l2), some (.inl l3), some (.inl l4), some (.inl (l5 + 1))]) h dX7_check_102 rfl rfl (by decide) rfl ?_
        refine r_goto (pc := 105) (tgt := 51) h dX7_check_105 (by decide) ?_
        exact ih _ _ _ _ _ _ hf
      · refine r_if_eq (pc := 68) (tgt := 102) h dX7_check_68 (by decide) (fun q => absurd q hc17) (fun _ => ?_)
        refine r_aload_n (pc := 71) h dX7_check_71 rfl ?_
        refine gf_X7_93 (pc := 72) h dX7_check_72 ?_
        refine r_aload_n (pc := 75) h dX7_check_75 rfl ?_
        refine gf_X7_198 (pc := 76) (v := (u 0 36)) h rfl dX7_check_76 ?_
        refine r_aload_n (pc := 79) h dX7_check_79 rfl ?_
        refine gf_X7_43 (pc := 80) h dX7_check_80 ?_
        refine r_bipush (pc := 83) (v := 8) h dX7_check_83 (by decide) ?_
        refine r_iload_n (pc := 85) h dX7_check_85 rfl ?_
        refine r_imul (pc := 86) h dX7_check_86 ?_
        refine r_iload (pc := 87) h dX7_check_87 rfl ?_
        refine r_iadd (pc := 89) h dX7_check_89 ?_
        refine p_g hf (fun hi18 hf => ?_)
        refine r_iald (pc := 90) (k := 12) (v := (u 12 ((8 * l2) + l5).toNatClampNeg)) h hshM_12 hi18 rfl dX7_check_90 ?_
        refine p_g hf (fun hi19 hf => ?_)
        refine r_iast (pc := 91) (k := 27) h hshM_27 hi19 dX7_check_91 ?_
        refine r_aload_n (pc := 92) h dX7_check_92 rfl ?_
        refine r_dup (pc := 93) h dX7_check_93 ?_
        refine gf_X7_198 (pc := 94) (v := (u 0 36)) h rfl dX7_check_94 ?_
        refine r_iconst (pc := 97) (v := 1) h dX7_check_97 (by decide) ?_
        refine r_iadd (pc := 98) h dX7_check_98 ?_
        refine pf_X7_198 (pc := 99) h dX7_check_99 ?_
        refine r_iinc (pc := 102) (v := (l5 + 1)) (L' := [some (.inr 0), some (.inl l1), some (.inl l2), some (.inl l3), some (.inl l4), some (.inl (l5 + 1))]) h dX7_check_102 rfl rfl (by decide) rfl ?_
        refine r_goto (pc := 105) (tgt := 51) h dX7_check_105 (by decide) ?_
        exact ih _ _ _ _ _ _ hf
set_option maxRecDepth 100000 in
set_option maxHeartbeats 4000000 in
theorem w_X7_check_0 {K : Kx} {E : Ex} (h : Ok shM K E RX7 cX7_check 6 rm_X7_check) {r : Int32 × St} (hr : RetI shM K E cX7_check 6 r.1 r.2) (u : St) (l1 l2 l3 : Int32) (hf : f_X7_check u l1 l2 l3 = some r) : Vd shM K E 6 0 [some (.inr 0), some (.inl l1), some (.inl l2), some (.inl l3), none, none] [] u := by
  refine r_aload_n (pc := 0) h dX7_check_0 rfl ?_
  refine gf_X7_195 (pc := 1) (v := (u 0 23)) h rfl dX7_check_1 ?_
  refine r_istore (pc := 4) (L' := [some (.inr 0), some (.inl l1), some (.inl l2), some (.inl l3), some (.inl (u 0 23)), none]) h dX7_check_4 (by decide) rfl ?_
  refine r_aload_n (pc := 6) h dX7_check_6 rfl ?_
  refine r_iconst (pc := 7) (v := 0) h dX7_check_7 (by decide) ?_
  refine pf_X7_195 (pc := 8) h dX7_check_8 ?_
  refine r_aload_n (pc := 11) h dX7_check_11 rfl ?_
  refine r_iload_n (pc := 12) h dX7_check_12 rfl ?_
  refine r_iload_n (pc := 13) h dX7_check_13 rfl ?_
  refine r_iload_n (pc := 14) h dX7_check_14 rfl ?_
  refine p_b hf (fun q20 e21 hf => ?_)
  refine r_cVi (pc := 15) (k := 0) (st := []) h [.inl l1, .inl l2, .inl l3] cv_X7_isChange wm_X7_127 (c_X7_isChange e21) ⟨rfl, rfl, Nat.le_of_ble_eq_true rfl, Nat.le_of_ble_eq_true rfl⟩ hshM_0 rfl rfl (Nat.le_of_ble_eq_true rfl) dX7_check_15 ?_
  refine p_ite hf (fun hc22 hf => ?_) (fun hc22 hf => ?_)
  · refine r_if_ne (pc := 18) (tgt := 27) h dX7_check_18 (by decide) (fun q => absurd hc22 q) (fun _ => ?_)
    refine r_aload_n (pc := 21) h dX7_check_21 rfl ?_
    refine r_iconst (pc := 22) (v := 1) h dX7_check_22 (by decide) ?_
    refine p_b hf (fun q28 e29 hf => ?_)
    refine r_cVi (pc := 23) (k := 0) (st := []) h [.inl 1] cv_X7_finding wm_X7_104 (c_X7_finding e29) ⟨rfl, rfl, Nat.le_of_ble_eq_true rfl, Nat.le_of_ble_eq_true rfl⟩ hshM_0 rfl rfl (Nat.le_of_ble_eq_true rfl) dX7_check_23 ?_
    have hf := Option.some.inj hf
    subst hf
    exact hr 26 _ dX7_check_26
  · refine r_if_ne (pc := 18) (tgt := 27) h dX7_check_18 (by decide) (fun _ => ?_) (fun q => absurd q hc22)
    refine r_aload_n (pc := 27) h dX7_check_27 rfl ?_
    refine r_iload_n (pc := 28) h dX7_check_28 rfl ?_
    refine r_iload_n (pc := 29) h dX7_check_29 rfl ?_
    refine r_iload_n (pc := 30) h dX7_check_30 rfl ?_
    refine p_b hf (fun q23 e24 hf => ?_)
    refine r_cVi (pc := 31) (k := 0) (st := []) h [.inl l1, .inl l2, .inl l3] cv_X7_isAllowed wm_X7_130 (c_X7_isAllowed e24) ⟨rfl, rfl, Nat.le_of_ble_eq_true rfl, Nat.le_of_ble_eq_true rfl⟩ hshM_0 rfl rfl (Nat.le_of_ble_eq_true rfl) dX7_check_31 ?_
    refine p_ite hf (fun hc25 hf => ?_) (fun hc25 hf => ?_)
    · refine r_if_ne (pc := 34) (tgt := 43) h dX7_check_34 (by decide) (fun q => absurd hc25 q) (fun _ => ?_)
      refine r_aload_n (pc := 37) h dX7_check_37 rfl ?_
      refine r_iconst (pc := 38) (v := 3) h dX7_check_38 (by decide) ?_
      refine p_b hf (fun q26 e27 hf => ?_)
      refine r_cVi (pc := 39) (k := 0) (st := []) h [.inl 3] cv_X7_finding wm_X7_104 (c_X7_finding e27) ⟨rfl, rfl, Nat.le_of_ble_eq_true rfl, Nat.le_of_ble_eq_true rfl⟩ hshM_0 rfl rfl (Nat.le_of_ble_eq_true rfl) dX7_check_39 ?_
      have hf := Option.some.inj hf
      subst hf
      exact hr 42 _ dX7_check_42
    · refine r_if_ne (pc := 34) (tgt := 43) h dX7_check_34 (by decide) (fun _ => ?_) (fun q => absurd q hc25)
      refine r_aload_n (pc := 43) h dX7_check_43 rfl ?_
      refine r_iconst (pc := 44) (v := 0) h dX7_check_44 (by decide) ?_
      refine pf_X7_198 (pc := 45) h dX7_check_45 ?_
      refine r_iconst (pc := 48) (v := 0) h dX7_check_48 (by decide) ?_
      refine r_istore (pc := 49) (L' := [some (.inr 0), some (.inl l1), some (.inl l2), some (.inl l3), some (.inl (u 0 23)), some (.inl 0)]) h dX7_check_49 (by decide) rfl ?_
      exact w_X7_check_51 h hr FU _ _ _ _ _ _ hf
theorem c_X7_check {u : St} {l1 l2 l3 : Int32} {r : Int32 × St} (hf : f_X7_check u l1 l2 l3 = some r) : CtI shM yX7_check cX7_check 6 (some .int) rm_X7_check [.inr 0, .inl l1, .inl l2, .inl l3] u r.1 r.2 := ct_I (by decide +kernel) (Nat.le_of_ble_eq_true rfl) (fun K E h hr => w_X7_check_0 h hr _ _ _ _ hf)
set_option maxRecDepth 100000 in
set_option maxHeartbeats 4000000 in
theorem w_X7_count_0 {K : Kx} {E : Ex} (h : Ok shM K E RX7 cX7_count 2 rm_X7_count) {r : Int32 × St} (hr : RetI shM K E cX7_count 2 r.1 r.2) (u : St) (l1 : Int32) (hf : f_X7_count u l1 = some r) : Vd shM K E 2 0 [some (.inr 0), some (.inl l1)] [] u := by
  refine r_iload_n (pc := 0) h dX7_count_0 rfl ?_
  refine p_ite hf (fun hc1 hf => ?_) (fun hc1 hf => ?_)
  · refine r_tIn (pc := 1) (tgt := 40) h dX7_count_1 (by rw [hc1]; decide) (by rw [hc1]; decide) (by rw [hc1]; rfl) (by decide) ?_
    refine r_aload_n (pc := 40) h dX7_count_40 rfl ?_
    refine gf_X7_97 (pc := 41) (v := (u 0 0)) h rfl dX7_count_41 ?_
    have hf := Option.some.inj hf
    subst hf
    exact hr 44 _ dX7_count_44
  · refine p_ite hf (fun hc2 hf => ?_) (fun hc2 hf => ?_)
    · refine r_tIn (pc := 1) (tgt := 45) h dX7_count_1 (by rw [hc2]; decide) (by rw [hc2]; decide) (by rw [hc2]; rfl) (by decide) ?_
      refine r_aload_n (pc := 45) h dX7_count_45 rfl ?_
      refine gf_X7_166 (pc := 46) (v := (u 0 14)) h rfl dX7_count_46 ?_
      have hf := Option.some.inj hf
      subst hf
      exact hr 49 _ dX7_count_49
    · refine p_ite hf (fun hc3 hf => ?_) (fun hc3 hf => ?_)
      · refine r_tIn (pc := 1) (tgt := 50) h dX7_count_1 (by rw [hc3]; decide) (by rw [hc3]; decide) (by rw [hc3]; rfl) (by decide) ?_
        refine r_aload_n (pc := 50) h dX7_count_50 rfl ?_
        refine gf_X7_182 (pc := 51) (v := (u 0 22)) h rfl dX7_count_51 ?_
        have hf := Option.some.inj hf
        subst hf
        exact hr 54 _ dX7_count_54
      · refine p_ite hf (fun hc4 hf => ?_) (fun hc4 hf => ?_)
        · refine r_tIn (pc := 1) (tgt := 55) h dX7_count_1 (by rw [hc4]; decide) (by rw [hc4]; decide) (by rw [hc4]; rfl) (by decide) ?_
          refine r_aload_n (pc := 55) h dX7_count_55 rfl ?_
          refine gf_X7_195 (pc := 56) (v := (u 0 23)) h rfl dX7_count_56 ?_
          have hf := Option.some.inj hf
          subst hf
          exact hr 59 _ dX7_count_59
        · refine p_ite hf (fun hc5 hf => ?_) (fun hc5 hf => ?_)
          · refine r_tIn (pc := 1) (tgt := 60) h dX7_count_1 (by rw [hc5]; decide) (by rw [hc5]; decide) (by rw [hc5]; rfl) (by decide) ?_
            refine r_aload_n (pc := 60) h dX7_count_60 rfl ?_
            refine p_b hf (fun q6 e7 hf => ?_)
            refine r_cVi (pc := 61) (k := 0) (st := []) h [] cv_X7_washing wm_X7_178 (c_X7_washing e7) ⟨rfl, rfl, Nat.le_of_ble_eq_true rfl, Nat.le_of_ble_eq_true rfl⟩ hshM_0 rfl rfl (Nat.le_of_ble_eq_true rfl) dX7_count_61 ?_
            have hf := Option.some.inj hf
            subst hf
            exact hr 64 _ dX7_count_64
          · refine p_ite hf (fun hc8 hf => ?_) (fun hc8 hf => ?_)
            · refine r_tIn (pc := 1) (tgt := 65) h dX7_count_1 (by rw [hc8]; decide) (by rw [hc8]; decide) (by rw [hc8]; rfl) (by decide) ?_
              refine r_aload_n (pc := 65) h dX7_count_65 rfl ?_
              refine gf_X7_46 (pc := 66) (v := (u 0 13)) h rfl dX7_count_66 ?_
              have hf := Option.some.inj hf
              subst hf
              exact hr 69 _ dX7_count_69
            · refine r_tOut (pc := 1) (tgt := 70) h dX7_count_1 (sw_out6 hc1 hc2 hc3 hc4 hc5 hc8) (by decide) ?_
              refine r_aload_n (pc := 70) h dX7_count_70 rfl ?_
              refine r_iconst (pc := 71) (v := 1) h dX7_count_71 (by decide) ?_
              refine p_b hf (fun q9 e10 hf => ?_)
              refine r_cVi (pc := 72) (k := 0) (st := []) h [.inl 1] cv_X7_finding wm_X7_104 (c_X7_finding e10) ⟨rfl, rfl, Nat.le_of_ble_eq_true rfl, Nat.le_of_ble_eq_true rfl⟩ hshM_0 rfl rfl (Nat.le_of_ble_eq_true rfl) dX7_count_72 ?_
              have hf := Option.some.inj hf
              subst hf
              exact hr 75 _ dX7_count_75
theorem c_X7_count {u : St} {l1 : Int32} {r : Int32 × St} (hf : f_X7_count u l1 = some r) : CtI shM yX7_count cX7_count 2 (some .int) rm_X7_count [.inr 0, .inl l1] u r.1 r.2 := ct_I (by decide +kernel) (Nat.le_of_ble_eq_true rfl) (fun K E h hr => w_X7_count_0 h hr _ _ hf)
set_option maxRecDepth 100000 in
set_option maxHeartbeats 4000000 in
theorem w_X7_found_0 {K : Kx} {E : Ex} (h : Ok shM K E RX7 cX7_found 2 rm_X7_found) {r : Int32 × St} (hr : RetI shM K E cX7_found 2 r.1 r.2) (u : St) (l1 : Int32) (hf : f_X7_found u l1 = some r) : Vd shM K E 2 0 [some (.inr 0), some (.inl l1)] [] u := by
  refine r_iload_n (pc := 0) h dX7_found_0 rfl ?_
  refine r_iconst (pc := 1) (v := 1) h dX7_found_1 (by decide) ?_
  refine r_iconst (pc := 2) (v := 5) h dX7_found_2 (by decide) ?_
  refine p_b hf (fun q1 e2 hf => ?_)
  refine r_cSi (pc := 3) (st := []) h [.inl l1, .inl 1, .inl 5] cs_X7_isIn wm_X7_100 (c_X7_isIn e2) ⟨rfl, rfl, Nat.le_of_ble_eq_true rfl, Nat.le_of_ble_eq_true rfl⟩ (Nat.le_of_ble_eq_true rfl) dX7_found_3 ?_
  refine p_ite hf (fun hc3 hf => ?_) (fun hc3 hf => ?_)
  · refine r_if_eq (pc := 6) (tgt := 18) h dX7_found_6 (by decide) (fun _ => ?_) (fun q => absurd hc3 q)
    refine r_aload_n (pc := 18) h dX7_found_18 rfl ?_
    refine r_iconst (pc := 19) (v := 1) h dX7_found_19 (by decide) ?_
    refine p_b hf (fun q4 e5 hf => ?_)
    refine r_cVi (pc := 20) (k := 0) (st := []) h [.inl 1] cv_X7_finding wm_X7_104 (c_X7_finding e5) ⟨rfl, rfl, Nat.le_of_ble_eq_true rfl, Nat.le_of_ble_eq_true rfl⟩ hshM_0 rfl rfl (Nat.le_of_ble_eq_true rfl) dX7_found_20 ?_
    have hf := Option.some.inj hf
    subst hf
    exact hr 23 _ dX7_found_23
  · refine r_if_eq (pc := 6) (tgt := 18) h dX7_found_6 (by decide) (fun q => absurd q hc3) (fun _ => ?_)
    refine r_aload_n (pc := 9) h dX7_found_9 rfl ?_
    refine gf_X7_74 (pc := 10) h dX7_found_10 ?_
    refine r_iload_n (pc := 13) h dX7_found_13 rfl ?_
    refine p_g hf (fun hi6 hf => ?_)
    refine r_iald (pc := 14) (k := 21) (v := (u 21 l1.toNatClampNeg)) h hshM_21 hi6 rfl dX7_found_14 ?_
    refine r_goto (pc := 15) (tgt := 23) h dX7_found_15 (by decide) ?_
    have hf := Option.some.inj hf
    subst hf
    exact hr 23 _ dX7_found_23
theorem c_X7_found {u : St} {l1 : Int32} {r : Int32 × St} (hf : f_X7_found u l1 = some r) : CtI shM yX7_found cX7_found 2 (some .int) rm_X7_found [.inr 0, .inl l1] u r.1 r.2 := ct_I (by decide +kernel) (Nat.le_of_ble_eq_true rfl) (fun K E h hr => w_X7_found_0 h hr _ _ hf)
