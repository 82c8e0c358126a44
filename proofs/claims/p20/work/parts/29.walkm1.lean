set_option maxRecDepth 100000 in
set_option maxHeartbeats 4000000 in
theorem w_X7_thickAt_83 {K : Kx} {E : Ex} (h : Ok shM K E RX7 cX7_thickAt 7 rm_X7_thickAt) {r : Int32} {u : St} (hr : RetI shM K E cX7_thickAt 7 r u) : ∀ (n : Nat) (l1 l4 l5 l6 : Int32), f_X7_thickAt_83 u n l1 l4 l5 l6 = some r → Vd shM K E 7 83 [some (.inr 0), some (.inl l1), none, none, some (.inl l4), some (.inl l5), some (.inl l6)] [] u := by
  intro n
  induction n with
  | zero => intro l1 l4 l5 l6 hf; cases hf
  | succ n ih =>
    intro l1 l4 l5 l6 hf
    refine r_iload (pc := 83) h dX7_thickAt_83 rfl ?_
    refine r_aload_n (pc := 85) h dX7_thickAt_85 rfl ?_
    refine gf_X7_40 (pc := 86) h dX7_thickAt_86 ?_
    refine r_iload_n (pc := 89) h dX7_thickAt_89 rfl ?_
    refine p_g hf (fun hi1 hf => ?_)
    refine r_iald (pc := 90) (k := 11) (v := (u 11 l1.toNatClampNeg)) h hshM_11 hi1 rfl dX7_thickAt_90 ?_
    refine p_ite hf (fun hc2 hf => ?_) (fun hc2 hf => ?_)
    · refine r_icmp_ge (pc := 91) (tgt := 148) h dX7_thickAt_91 (by decide) (fun _ => ?_) (fun q => absurd hc2 q)
      refine r_iload (pc := 148) h dX7_thickAt_148 rfl ?_
      have hf := Option.some.inj hf
      subst hf
      exact hr 150 _ dX7_thickAt_150
    · refine r_icmp_ge (pc := 91) (tgt := 148) h dX7_thickAt_91 (by decide) (fun q => absurd q hc2) (fun _ => ?_)
      refine r_iload (pc := 94) h dX7_thickAt_94 rfl ?_
      refine r_aload_n (pc := 96) h dX7_thickAt_96 rfl ?_
      refine gf_X7_13 (pc := 97) h dX7_thickAt_97 ?_
      refine r_aload_n (pc := 100) h dX7_thickAt_100 rfl ?_
      refine gf_X7_43 (pc := 101) h dX7_thickAt_101 ?_
      refine r_bipush (pc := 104) (v := 8) h dX7_thickAt_104 (by decide) ?_
      refine r_iload_n (pc := 106) h dX7_thickAt_106 rfl ?_
      refine r_imul (pc := 107) h dX7_thickAt_107 ?_
      refine r_iload (pc := 108) h dX7_thickAt_108 rfl ?_
      refine r_iadd (pc := 110) h dX7_thickAt_110 ?_
      refine p_g hf (fun hi3 hf => ?_)
      refine r_iald (pc := 111) (k := 12) (v := (u 12 ((8 * l1) + l6).toNatClampNeg)) h hshM_12 hi3 rfl dX7_thickAt_111 ?_
      refine p_g hf (fun hi4 hf => ?_)
      refine r_iald (pc := 112) (k := 2) (v := (u 2 (u 12 ((8 * l1) + l6).toNatClampNeg).toNatClampNeg)) h hshM_2 hi4 rfl dX7_thickAt_112 ?_
      refine r_iload (pc := 113) h dX7_thickAt_113 rfl ?_
      refine p_ite hf (fun hc5 hf => ?_) (fun hc5 hf => ?_)
      · refine r_icmp_ne (pc := 115) (tgt := 138) h dX7_thickAt_115 (by decide) (fun q => absurd hc5 q) (fun _ => ?_)
        refine r_aload_n (pc := 118) h dX7_thickAt_118 rfl ?_
        refine gf_X7_16 (pc := 119) h dX7_thickAt_119 ?_
        refine r_aload_n (pc := 122) h dX7_thickAt_122 rfl ?_
        refine gf_X7_43 (pc := 123) h dX7_thickAt_123 ?_
        refine r_bipush (pc := 126) (v := 8) h dX7_thickAt_126 (by decide) ?_
        refine r_iload_n (pc := 128) h dX7_thickAt_128 rfl ?_
        refine r_imul (pc := 129) h dX7_thickAt_129 ?_
        refine r_iload (pc := 130) h dX7_thickAt_130 rfl ?_
        refine r_iadd (pc := 132) h dX7_thickAt_132 ?_
        refine r_iald (pc := 133) (k := 12) (v := (u 12 ((8 * l1) + l6).toNatClampNeg)) h hshM_12 hi3 rfl dX7_thickAt_133 ?_
        refine r_iald (pc := 134) (k := 3) (v := (u 3 (u 12 ((8 * l1) + l6).toNatClampNeg).toNatClampNeg)) h hshM_3 hi4 rfl dX7_thickAt_134 ?_
        refine r_goto (pc := 135) (tgt := 139) h dX7_thickAt_135 (by decide) ?_
        refine r_iadd (pc := 139) h dX7_thickAt_139 ?_
        refine r_istore (pc := 140) (L' := [some (.inr 0), some (.inl l1), none, none, some (.inl l4), some (.inl (l5 + (u 3 (u 12 ((8 * l1) + l6).toNatClampNeg).toNatClampNeg))), some (.inl l6)]) h dX7_thickAt_140 (by decide) rfl ?_
        refine r_iinc (pc := 142) (v := (l6 + 1)) (L' := [some (.inr 0), some (.inl l1), none, none, some (.inl l4), some (.inl (l5 + (u 3 (u 12 ((8 * l1) + l6).toNatClampNeg).toNatClampNeg))), some (.inl (l6 + 1))]) h dX7_thickAt_142 rfl rfl (by decide) rfl ?_
        refine r_goto (pc := 145) (tgt := 83) h dX7_thickAt_145 (by decide) ?_
        exact ih _ _ _ _ hf
      · refine r_icmp_ne (pc := 115) (tgt := 138) h dX7_thickAt_115 (by decide) (fun _ => ?_) (fun q => absurd q hc5)
        refine r_iconst (pc := 138) (v := 0) h dX7_thickAt_138 (by decide) ?_
        refine r_iadd (pc := 139) h dX7_thickAt_139 ?_
        refine r_istore (pc := 140) (L' := [some (.inr 0), some (.inl l1), none, none, some (.inl l4), some (.inl (l5 + 0)), some (.inl l6)]) h dX7_thickAt_140 (by decide) rfl ?_
        refine r_iinc (pc := 142) (v := (l6 + 1)) (L' := [some (.inr 0), some (.inl l1), none, none, some (.inl l4), some (.inl (l5 + 0)), some (.inl (l6 + 1))]) h dX7_thickAt_142 rfl rfl (by decide) rfl ?_
        refine r_goto (pc := 145) (tgt := 83) h dX7_thickAt_145 (by decide) ?_
        exact ih _ _ _ _ hf
set_option maxRecDepth 100000 in
set_option maxHeartbeats 4000000 in
theorem w_X7_thickAt_6 {K : Kx} {E : Ex} (h : Ok shM K E RX7 cX7_thickAt 7 rm_X7_thickAt) {r : Int32} {u : St} (hr : RetI shM K E cX7_thickAt 7 r u) : ∀ (n : Nat) (l1 l2 l3 l4 l5 l6 : Int32), f_X7_thickAt_6 u n l1 l2 l3 l4 l5 l6 = some r → Vd shM K E 7 6 [some (.inr 0), some (.inl l1), some (.inl l2), some (.inl l3), some (.inl l4), some (.inl l5), some (.inl l6)] [] u := by
  intro n
  induction n with
  | zero => intro l1 l2 l3 l4 l5 l6 hf; cases hf
  | succ n ih =>
    intro l1 l2 l3 l4 l5 l6 hf
    refine r_iload (pc := 6) h dX7_thickAt_6 rfl ?_
    refine r_aload_n (pc := 8) h dX7_thickAt_8 rfl ?_
    refine gf_X7_40 (pc := 9) h dX7_thickAt_9 ?_
    refine r_iload_n (pc := 12) h dX7_thickAt_12 rfl ?_
    refine p_g hf (fun hi6 hf => ?_)
    refine r_iald (pc := 13) (k := 11) (v := (u 11 l2.toNatClampNeg)) h hshM_11 hi6 rfl dX7_thickAt_13 ?_
    refine p_ite hf (fun hc7 hf => ?_) (fun hc7 hf => ?_)
    · refine r_icmp_ge (pc := 14) (tgt := 80) h dX7_thickAt_14 (by decide) (fun _ => ?_) (fun q => absurd hc7 q)
      refine r_iconst (pc := 80) (v := 0) h dX7_thickAt_80 (by decide) ?_
      refine r_istore (pc := 81) (L' := [some (.inr 0), some (.inl l1), some (.inl l2), some (.inl l3), some (.inl l4), some (.inl l5), some (.inl 0)]) h dX7_thickAt_81 (by decide) rfl ?_
      refine r_le [some (.inr 0), some (.inl l1), none, none, some (.inl l4), some (.inl l5), some (.inl 0)] ⟨rfl, ⟨rfl, ⟨rfl, ⟨rfl, ⟨rfl, trivial⟩⟩⟩⟩⟩ ?_
      exact w_X7_thickAt_83 h hr FU _ _ _ _ hf
    · refine r_icmp_ge (pc := 14) (tgt := 80) h dX7_thickAt_14 (by decide) (fun q => absurd q hc7) (fun _ => ?_)
      refine r_iload (pc := 17) h dX7_thickAt_17 rfl ?_
      refine r_iload_n (pc := 19) h dX7_thickAt_19 rfl ?_
      refine r_iload (pc := 20) h dX7_thickAt_20 rfl ?_
      refine p_b hf (fun q8 e9 hf => ?_)
      refine r_cSi (pc := 22) (st := [.inl l5]) h [.inl l3, .inl l6] cs_X7_has wm_X7_119 (c_X7_has e9) ⟨rfl, rfl, Nat.le_of_ble_eq_true rfl, Nat.le_of_ble_eq_true rfl⟩ (Nat.le_of_ble_eq_true rfl) dX7_thickAt_22 ?_
      refine p_ite hf (fun hc10 hf => ?_) (fun hc10 hf => ?_)
      · refine r_if_eq (pc := 25) (tgt := 70) h dX7_thickAt_25 (by decide) (fun _ => ?_) (fun q => absurd hc10 q)
        refine r_iconst (pc := 70) (v := 0) h dX7_thickAt_70 (by decide) ?_
        refine r_iadd (pc := 71) h dX7_thickAt_71 ?_
        refine r_istore (pc := 72) (L' := [some (.inr 0), some (.inl l1), some (.inl l2), some (.inl l3), some (.inl l4), some (.inl (l5 + 0)), some (.inl l6)]) h dX7_thickAt_72 (by decide) rfl ?_
        refine r_iinc (pc := 74) (v := (l6 + 1)) (L' := [some (.inr 0), some (.inl l1), some (.inl l2), some (.inl l3), some (.inl l4), some (.inl (l5 + 0)), some (.inl (l6 + 1))]) h dX7_thickAt_74 rfl rfl (by decide) rfl ?_
        refine r_goto (pc := 77) (tgt := 6) h dX7_thickAt_77 (by decide) ?_
        exact ih _ _ _ _ _ _ hf
      · refine r_if_eq (pc := 25) (tgt := 70) h dX7_thickAt_25 (by decide) (fun q => absurd q hc10) (fun _ => ?_)
        refine r_aload_n (pc := 28) h dX7_thickAt_28 rfl ?_
        refine gf_X7_13 (pc := 29) h dX7_thickAt_29 ?_
        refine r_aload_n (pc := 32) h dX7_thickAt_32 rfl ?_
        refine gf_X7_43 (pc := 33) h dX7_thickAt_33 ?_
        refine r_bipush (pc := 36) (v := 8) h dX7_thickAt_36 (by decide) ?_
        refine r_iload_n (pc := 38) h dX7_thickAt_38 rfl ?_
        refine r_imul (pc := 39) h dX7_thickAt_39 ?_
        refine r_iload (pc := 40) h dX7_thickAt_40 rfl ?_
        refine r_iadd (pc := 42) h dX7_thickAt_42 ?_
        refine p_g hf (fun hi11 hf => ?_)
        refine r_iald (pc := 43) (k := 12) (v := (u 12 ((8 * l2) + l6).toNatClampNeg)) h hshM_12 hi11 rfl dX7_thickAt_43 ?_
        refine p_g hf (fun hi12 hf => ?_)
        refine r_iald (pc := 44) (k := 2) (v := (u 2 (u 12 ((8 * l2) + l6).toNatClampNeg).toNatClampNeg)) h hshM_2 hi12 rfl dX7_thickAt_44 ?_
        refine r_iload (pc := 45) h dX7_thickAt_45 rfl ?_
        refine p_ite hf (fun hc13 hf => ?_) (fun hc13 hf => ?_)
        · refine r_icmp_ne (pc := 47) (tgt := 70) h dX7_thickAt_47 (by decide) (fun q => absurd hc13 q) (fun _ => ?_)
          refine r_aload_n (pc := 50) h dX7_thickAt_50 rfl ?_
          refine gf_X7_16 (pc := 51) h dX7_thickAt_51 ?_
          refine r_aload_n (pc := 54) h dX7_thickAt_54 rfl ?_
          refine gf_X7_43 (pc := 55) h dX7_thickAt_55 ?_
          refine r_bipush (pc := 58) (v := 8) h dX7_thickAt_58 (by decide) ?_
          refine r_iload_n (pc := 60) h dX7_thickAt_60 rfl ?_
          refine r_imul (pc := 61) h dX7_thickAt_61 ?_
          refine r_iload (pc := 62) h dX7_thickAt_62 rfl ?_
          refine r_iadd (pc := 64) h dX7_thickAt_64 ?_
          refine r_iald (pc := 65) (k := 12) (v := (u 12 ((8 * l2) + l6).toNatClampNeg)) h hshM_12 hi11 rfl dX7_thickAt_65 ?_
          refine r_iald (pc := 66) (k := 3) (v := (u 3 (u 12 ((8 * l2) + l6).toNatClampNeg).toNatClampNeg)) h hshM_3 hi12 rfl dX7_thickAt_66 ?_
          refine r_goto (pc := 67) (tgt := 71) h dX7_thickAt_67 (by decide) ?_
          refine r_iadd (pc := 71) h dX7_thickAt_71 ?_
          refine r_istore (pc := 72) (L' := [some (.inr 0), some (.inl l1), some (.inl l2), some (.inl l3), some (.inl l4), some (.inl (l5 + (u 3 (u 12 ((8 * l2) + l6).toNatClampNeg).toNatClampNeg))), some (.inl l6)]) h dX7_thickAt_72 (by decide) rfl ?_
          refine r_iinc (pc := 74) (v := (l6 + 1)) (L' := [some (.inr 0), some (.inl l1), some (.inl l2), some (.inl l3), some (.inl l4), some (.inl (l5 + (u 3 (u 12 ((8 * l2) + l6).toNatClampNeg).toNatClampNeg))), some (.inl (l6 + 1))]) h dX7_thickAt_74 rfl rfl (by decide) rfl ?_
          refine r_goto (pc := 77) (tgt := 6) h dX7_thickAt_77 (by decide) ?_
          exact ih _ _ _ _ _ _ hf
        · refine r_icmp_ne (pc := 47) (tgt := 70) h dX7_thickAt_47 (by decide) (fun _ => ?_) (fun q => absurd q hc13)
          refine r_iconst (pc := 70) (v := 0) h dX7_thickAt_70 (by decide) ?_
          refine r_iadd (pc := 71) h dX7_thickAt_71 ?_
          refine r_istore (pc := 72) (L' := [some (.inr 0), some (.inl l1), some (.inl l2), some (.inl l3), some (.inl l4), some (.inl (l5 + 0)), some (.inl l6)]) h dX7_thickAt_72 (by decide) rfl ?_
          refine r_iinc (pc := 74) (v := (l6 + 1)) (L' := [some (.inr 0), some (.inl l1), some (.inl l2), some (.inl l3), some (.inl l4), some (.inl (l5 + 0)), some (.inl (l6 + 1))]) h dX7_thickAt_74 rfl rfl (by decide) rfl ?_
          refine r_goto (pc := 77) (tgt := 6) h dX7_thickAt_77 (by decide) ?_
          exact ih _ _ _ _ _ _ hf
set_option maxRecDepth 100000 in
set_option maxHeartbeats 4000000 in
theorem w_X7_thickAt_0 {K : Kx} {E : Ex} (h : Ok shM K E RX7 cX7_thickAt 7 rm_X7_thickAt) {r : Int32} {u : St} (hr : RetI shM K E cX7_thickAt 7 r u) (l1 l2 l3 l4 : Int32) (hf : f_X7_thickAt u l1 l2 l3 l4 = some r) : Vd shM K E 7 0 [some (.inr 0), some (.inl l1), some (.inl l2), some (.inl l3), some (.inl l4), none, none] [] u := by
  refine r_iconst (pc := 0) (v := 0) h dX7_thickAt_0 (by decide) ?_
  refine r_istore (pc := 1) (L' := [some (.inr 0), some (.inl l1), some (.inl l2), some (.inl l3), some (.inl l4), some (.inl 0), none]) h dX7_thickAt_1 (by decide) rfl ?_
  refine r_iconst (pc := 3) (v := 0) h dX7_thickAt_3 (by decide) ?_
  refine r_istore (pc := 4) (L' := [some (.inr 0), some (.inl l1), some (.inl l2), some (.inl l3), some (.inl l4), some (.inl 0), some (.inl 0)]) h dX7_thickAt_4 (by decide) rfl ?_
  exact w_X7_thickAt_6 h hr FU _ _ _ _ _ _ hf
theorem c_X7_thickAt {u : St} {l1 l2 l3 l4 : Int32} {r : Int32} (hf : f_X7_thickAt u l1 l2 l3 l4 = some r) : CtI shM yX7_thickAt cX7_thickAt 7 (some .int) rm_X7_thickAt [.inr 0, .inl l1, .inl l2, .inl l3, .inl l4] u r u := ct_I (by decide +kernel) (Nat.le_of_ble_eq_true rfl) (fun K E h hr => w_X7_thickAt_0 h hr _ _ _ _ hf)
set_option maxRecDepth 100000 in
set_option maxHeartbeats 4000000 in
theorem w_X7_isAllowed_128 {K : Kx} {E : Ex} (h : Ok shM K E RX7 cX7_isAllowed 9 rm_X7_isAllowed) {r : Int32} {u : St} (hr : RetZ shM K E cX7_isAllowed 9 r u) {k63 : Int32 → Int32 → Int32 → Int32 → Int32 → Int32 → Int32 → Option (Int32)} (hk63 : ∀ (l1 l2 l3 l4 l5 l6 l7 : Int32), k63 l1 l2 l3 l4 l5 l6 l7 = some r → Vd shM K E 9 63 [some (.inr 0), some (.inl l1), some (.inl l2), some (.inl l3), some (.inl l4), some (.inl l5), some (.inl l6), some (.inl l7), none] [] u) (l1 l2 l3 l5 l6 l7 l8 s0 s1 : Int32) (hf : f_X7_isAllowed_128 k63 u l1 l2 l3 l5 l6 l7 l8 s0 s1 = some r) : Vd shM K E 9 128 [some (.inr 0), some (.inl l1), some (.inl l2), some (.inl l3), none, some (.inl l5), some (.inl l6), some (.inl l7), some (.inl l8)] [.inl s1, .inl s0] u := by
  refine r_iand (pc := 128) h dX7_isAllowed_128 ?_
  refine r_istore (pc := 129) (L' := [some (.inr 0), some (.inl l1), some (.inl l2), some (.inl l3), some (.inl (s0 &&& s1)), some (.inl l5), some (.inl l6), some (.inl l7), some (.inl l8)]) h dX7_isAllowed_129 (by decide) rfl ?_
  refine r_iload (pc := 131) h dX7_isAllowed_131 rfl ?_
  refine r_aload_n (pc := 133) h dX7_isAllowed_133 rfl ?_
  refine gf_X7_13 (pc := 134) h dX7_isAllowed_134 ?_
  refine r_iload (pc := 137) h dX7_isAllowed_137 rfl ?_
  refine p_g hf (fun hi1 hf => ?_)
  refine r_iald (pc := 139) (k := 2) (v := (u 2 l8.toNatClampNeg)) h hshM_2 hi1 rfl dX7_isAllowed_139 ?_
  refine r_aload_n (pc := 140) h dX7_isAllowed_140 rfl ?_
  refine gf_X7_13 (pc := 141) h dX7_isAllowed_141 ?_
  refine r_iload (pc := 144) h dX7_isAllowed_144 rfl ?_
  refine p_g hf (fun hi2 hf => ?_)
  refine r_iald (pc := 146) (k := 2) (v := (u 2 l6.toNatClampNeg)) h hshM_2 hi2 rfl dX7_isAllowed_146 ?_
  refine p_ite hf (fun hc3 hf => ?_) (fun hc3 hf => ?_)
  · refine r_icmp_ne (pc := 147) (tgt := 167) h dX7_isAllowed_147 (by decide) (fun q => absurd hc3 q) (fun _ => ?_)
    refine r_iload (pc := 150) h dX7_isAllowed_150 rfl ?_
    refine r_iload (pc := 152) h dX7_isAllowed_152 rfl ?_
    refine p_ite hf (fun hc4 hf => ?_) (fun hc4 hf => ?_)
    · refine r_icmp_ge (pc := 154) (tgt := 167) h dX7_isAllowed_154 (by decide) (fun _ => ?_) (fun q => absurd hc4 q)
      refine r_iconst (pc := 167) (v := 1) h dX7_isAllowed_167 (by decide) ?_
      refine r_goto (pc := 168) (tgt := 172) h dX7_isAllowed_168 (by decide) ?_
      refine r_iand (pc := 172) h dX7_isAllowed_172 ?_
      refine r_istore (pc := 173) (L' := [some (.inr 0), some (.inl l1), some (.inl l2), some (.inl l3), some (.inl ((s0 &&& s1) &&& 1)), some (.inl l5), some (.inl l6), some (.inl l7), some (.inl l8)]) h dX7_isAllowed_173 (by decide) rfl ?_
      refine r_iinc (pc := 175) (v := (l7 + 1)) (L' := [some (.inr 0), some (.inl l1), some (.inl l2), some (.inl l3), some (.inl ((s0 &&& s1) &&& 1)), some (.inl l5), some (.inl l6), some (.inl (l7 + 1)), some (.inl l8)]) h dX7_isAllowed_175 rfl rfl (by decide) rfl ?_
      refine r_goto (pc := 178) (tgt := 63) h dX7_isAllowed_178 (by decide) ?_
      refine r_le [some (.inr 0), some (.inl l1), some (.inl l2), some (.inl l3), some (.inl ((s0 &&& s1) &&& 1)), some (.inl l5), some (.inl l6), some (.inl (l7 + 1)), none] ⟨rfl, ⟨rfl, ⟨rfl, ⟨rfl, ⟨rfl, ⟨rfl, ⟨rfl, ⟨rfl, trivial⟩⟩⟩⟩⟩⟩⟩⟩ ?_
      exact hk63 _ _ _ _ _ _ _ hf
    · refine r_icmp_ge (pc := 154) (tgt := 167) h dX7_isAllowed_154 (by decide) (fun q => absurd q hc4) (fun _ => ?_)
      refine r_aload_n (pc := 157) h dX7_isAllowed_157 rfl ?_
      refine r_iload_n (pc := 158) h dX7_isAllowed_158 rfl ?_
      refine r_iload (pc := 159) h dX7_isAllowed_159 rfl ?_
      refine p_b hf (fun q5 e6 hf => ?_)
      refine r_cVi (pc := 161) (k := 0) (st := [.inl (s0 &&& s1)]) h [.inl l1, .inl l8] cv_X7_rowOf wm_X7_115 (c_X7_rowOf e6) ⟨rfl, rfl, Nat.le_of_ble_eq_true rfl, Nat.le_of_ble_eq_true rfl⟩ hshM_0 rfl rfl (Nat.le_of_ble_eq_true rfl) dX7_isAllowed_161 ?_
      refine p_ite hf (fun hc7 hf => ?_) (fun hc7 hf => ?_)
      · refine r_if_ge (pc := 164) (tgt := 171) h dX7_isAllowed_164 (by decide) (fun _ => ?_) (fun q => absurd hc7 q)
        refine r_iconst (pc := 171) (v := 0) h dX7_isAllowed_171 (by decide) ?_
        refine r_iand (pc := 172) h dX7_isAllowed_172 ?_
        refine r_istore (pc := 173) (L' := [some (.inr 0), some (.inl l1), some (.inl l2), some (.inl l3), some (.inl ((s0 &&& s1) &&& 0)), some (.inl l5), some (.inl l6), some (.inl l7), some (.inl l8)]) h dX7_isAllowed_173 (by decide) rfl ?_
        refine r_iinc (pc := 175) (v := (l7 + 1)) (L' := [some (.inr 0), some (.inl l1), some (.inl l2), some (.inl l3), some (.inl ((s0 &&& s1) &&& 0)), some (.inl l5), some (.inl l6), some (.inl (l7 + 1)), some (.inl l8)]) h dX7_isAllowed_175 rfl rfl (by decide) rfl ?_
        refine r_goto (pc := 178) (tgt := 63) h dX7_isAllowed_178 (by decide) ?_
        refine r_le [some (.inr 0), some (.inl l1), some (.inl l2), some (.inl l3), some (.inl ((s0 &&& s1) &&& 0)), some (.inl l5), some (.inl l6), some (.inl (l7 + 1)), none] ⟨rfl, ⟨rfl, ⟨rfl, ⟨rfl, ⟨rfl, ⟨rfl, ⟨rfl, ⟨rfl, trivial⟩⟩⟩⟩⟩⟩⟩⟩ ?_
        exact hk63 _ _ _ _ _ _ _ hf
      · refine r_if_ge (pc := 164) (tgt := 171) h dX7_isAllowed_164 (by decide) (fun q => absurd q hc7) (fun _ => ?_)
        refine r_iconst (pc := 167) (v := 1) h dX7_isAllowed_167 (by decide) ?_
        refine r_goto (pc := 168) (tgt := 172) h dX7_isAllowed_168 (by decide) ?_
        refine r_iand (pc := 172) h dX7_isAllowed_172 ?_
        refine r_istore (pc := 173) (L' := [some (.inr 0), some (.inl l1), some (.inl l2), some (.inl l3), some (.inl ((s0 &&& s1) &&& 1)), some (.inl l5), some (.inl l6), some (.inl l7), some (.inl l8)]) h dX7_isAllowed_173 (by decide) rfl ?_
        refine r_iinc (pc := 175) (v := (l7 + 1)) (L' := [some (.inr 0), some (.inl l1), some (.inl l2), some (.inl l3), some (.inl ((s0 &&& s1) &&& 1)), some (.inl l5), some (.inl l6), some (.inl (l7 + 1)), some (.inl l8)]) h dX7_isAllowed_175 rfl rfl (by decide) rfl ?_
        refine r_goto (pc := 178) (tgt := 63) h dX7_isAllowed_178 (by decide) ?_
        refine r_le [some (.inr 0), some (.inl l1), some (.inl l2), some (.inl l3), some (.inl ((s0 &&& s1) &&& 1)), some (.inl l5), some (.inl l6), some (.inl (l7 + 1)), none] ⟨rfl, ⟨rfl, ⟨rfl, ⟨rfl, ⟨rfl, ⟨rfl, ⟨rfl, ⟨rfl, trivial⟩⟩⟩⟩⟩⟩⟩⟩ ?_
        exact hk63 _ _ _ _ _ _ _ hf
  · refine r_icmp_ne (pc := 147) (tgt := 167) h dX7_isAllowed_147 (by decide) (fun _ => ?_) (fun q => absurd q hc3)
    refine r_iconst (pc := 167) (v := 1) h dX7_isAllowed_167 (by decide) ?_
    refine r_goto (pc := 168) (tgt := 172) h dX7_isAllowed_168 (by decide) ?_
    refine r_iand (pc := 172) h dX7_isAllowed_172 ?_
    refine r_istore (pc := 173) (L' := [some (.inr 0), some (.inl l1), some (.inl l2), some (.inl l3), some (.inl ((s0 &&& s1) &&& 1)), some (.inl l5), some (.inl l6), some (.inl l7), some (.inl l8)]) h dX7_isAllowed_173 (by decide) rfl ?_
    refine r_iinc (pc := 175) (v := (l7 + 1)) (L' := [some (.inr 0), some (.inl l1), some (.inl l2), some (.inl l3), some (.inl ((s0 &&& s1) &&& 1)), some (.inl l5), some (.inl l6), some (.inl (l7 + 1)), some (.inl l8)]) h dX7_isAllowed_175 rfl rfl (by decide) rfl ?_
    refine r_goto (pc := 178) (tgt := 63) h dX7_isAllowed_178 (by decide) ?_
    refine r_le [some (.inr 0), some (.inl l1), some (.inl l2), some (.inl l3), some (.inl ((s0 &&& s1) &&& 1)), some (.inl l5), some (.inl l6), some (.inl (l7 + 1)), none] ⟨rfl, ⟨rfl, ⟨rfl, ⟨rfl, ⟨rfl, ⟨rfl, ⟨rfl, ⟨rfl, trivial⟩⟩⟩⟩⟩⟩⟩⟩ ?_
    exact hk63 _ _ _ _ _ _ _ hf
set_option maxRecDepth 100000 in
set_option maxHeartbeats 4000000 in
theorem w_X7_isAllowed_63 {K : Kx} {E : Ex} (h : Ok shM K E RX7 cX7_isAllowed 9 rm_X7_isAllowed) {r : Int32} {u : St} (hr : RetZ shM K E cX7_isAllowed 9 r u) {k6 : Int32 → Int32 → Int32 → Int32 → Int32 → Option (Int32)} (hk6 : ∀ (l1 l2 l3 l4 l5 : Int32), k6 l1 l2 l3 l4 l5 = some r → Vd shM K E 9 6 [some (.inr 0), some (.inl l1), some (.inl l2), some (.inl l3), some (.inl l4), some (.inl l5), none, none, none] [] u) : ∀ (n : Nat) (l1 l2 l3 l4 l5 l6 l7 : Int32), f_X7_isAllowed_63 k6 u n l1 l2 l3 l4 l5 l6 l7 = some r → Vd shM K E 9 63 [some (.inr 0), some (.inl l1), some (.inl l2), some (.inl l3), some (.inl l4), some (.inl l5), some (.inl l6), some (.inl l7), none] [] u := by
  intro n
  induction n with
  | zero => intro l1 l2 l3 l4 l5 l6 l7 hf; cases hf
  | succ n ih =>
    intro l1 l2 l3 l4 l5 l6 l7 hf
    refine r_iload (pc := 63) h dX7_isAllowed_63 rfl ?_
    refine r_aload_n (pc := 65) h dX7_isAllowed_65 rfl ?_
    refine gf_X7_40 (pc := 66) h dX7_isAllowed_66 ?_
    refine r_iload_n (pc := 69) h dX7_isAllowed_69 rfl ?_
    refine p_g hf (fun hi8 hf => ?_)
    refine r_iald (pc := 70) (k := 11) (v := (u 11 l2.toNatClampNeg)) h hshM_11 hi8 rfl dX7_isAllowed_70 ?_
    refine p_ite hf (fun hc9 hf => ?_) (fun hc9 hf => ?_)
    · refine r_icmp_ge (pc := 71) (tgt := 181) h dX7_isAllowed_71 (by decide) (fun _ => ?_) (fun q => absurd hc9 q)
      refine r_iload (pc := 181) h dX7_isAllowed_181 rfl ?_
      refine r_aload_n (pc := 183) h dX7_isAllowed_183 rfl ?_
      refine r_iload_n (pc := 184) h dX7_isAllowed_184 rfl ?_
      refine r_iload_n (pc := 185) h dX7_isAllowed_185 rfl ?_
      refine r_iload_n (pc := 186) h dX7_isAllowed_186 rfl ?_
      refine r_aload_n (pc := 187) h dX7_isAllowed_187 rfl ?_
      refine gf_X7_13 (pc := 188) h dX7_isAllowed_188 ?_
      refine r_iload (pc := 191) h dX7_isAllowed_191 rfl ?_
      refine p_g hf (fun hi10 hf => ?_)
      refine r_iald (pc := 193) (k := 2) (v := (u 2 l6.toNatClampNeg)) h hshM_2 hi10 rfl dX7_isAllowed_193 ?_
      refine p_b hf (fun q11 e12 hf => ?_)
      refine r_cVi (pc := 194) (k := 0) (st := [.inl l4]) h [.inl l1, .inl l2, .inl l3, .inl (u 2 l6.toNatClampNeg)] cv_X7_thickAt wm_X7_123 (c_X7_thickAt e12) ⟨rfl, rfl, Nat.le_of_ble_eq_true rfl, Nat.le_of_ble_eq_true rfl⟩ hshM_0 rfl rfl (Nat.le_of_ble_eq_true rfl) dX7_isAllowed_194 ?_
      refine r_aload_n (pc := 197) h dX7_isAllowed_197 rfl ?_
      refine gf_X7_46 (pc := 198) (v := (u 0 13)) h rfl dX7_isAllowed_198 ?_
      refine p_ite hf (fun hc13 hf => ?_) (fun hc13 hf => ?_)
      · refine r_icmp_gt (pc := 201) (tgt := 208) h dX7_isAllowed_201 (by decide) (fun _ => ?_) (fun q => absurd hc13 q)
        refine r_iconst (pc := 208) (v := 0) h dX7_isAllowed_208 (by decide) ?_
        refine r_iand (pc := 209) h dX7_isAllowed_209 ?_
        refine r_istore (pc := 210) (L' := [some (.inr 0), some (.inl l1), some (.inl l2), some (.inl l3), some (.inl (l4 &&& 0)), some (.inl l5), some (.inl l6), some (.inl l7), none]) h dX7_isAllowed_210 (by decide) rfl ?_
        refine r_iinc (pc := 212) (v := (l5 + 1)) (L' := [some (.inr 0), some (.inl l1), some (.inl l2), some (.inl l3), some (.inl (l4 &&& 0)), some (.inl (l5 + 1)), some (.inl l6), some (.inl l7), none]) h dX7_isAllowed_212 rfl rfl (by decide) rfl ?_
        refine r_goto (pc := 215) (tgt := 6) h dX7_isAllowed_215 (by decide) ?_
        refine r_le [some (.inr 0), some (.inl l1), some (.inl l2), some (.inl l3), some (.inl (l4 &&& 0)), some (.inl (l5 + 1)), none, none, none] ⟨rfl, ⟨rfl, ⟨rfl, ⟨rfl, ⟨rfl, ⟨rfl, trivial⟩⟩⟩⟩⟩⟩ ?_
        exact hk6 _ _ _ _ _ hf
      · refine r_icmp_gt (pc := 201) (tgt := 208) h dX7_isAllowed_201 (by decide) (fun q => absurd q hc13) (fun _ => ?_)
        refine r_iconst (pc := 204) (v := 1) h dX7_isAllowed_204 (by decide) ?_
        refine r_goto (pc := 205) (tgt := 209) h dX7_isAllowed_205 (by decide) ?_
        refine r_iand (pc := 209) h dX7_isAllowed_209 ?_
        refine r_istore (pc := 210) (L' := [some (.inr 0), some (.inl l1), some (.inl l2), some (.inl l3), some (.inl (l4 &&& 1)), some (.inl l5), some (.inl l6), some (.inl l7), none]) h dX7_isAllowed_210 (by decide) rfl ?_
        refine r_iinc (pc := 212) (v := (l5 + 1)) (L' := [some (.inr 0), some (.inl l1), some (.inl l2), some (.inl l3), some (.inl (l4 &&& 1)), some (.inl (l5 + 1)), some (.inl l6), some (.inl l7), none]) h dX7_isAllowed_212 rfl rfl (by decide) rfl ?_
        refine r_goto (pc := 215) (tgt := 6) h dX7_isAllowed_215 (by decide) ?_
        refine r_le [some (.inr 0), some (.inl l1), some (.inl l2), some (.inl l3), some (.inl (l4 &&& 1)), some (.inl (l5 + 1)), none, none, none] ⟨rfl, ⟨rfl, ⟨rfl, ⟨rfl, ⟨rfl, ⟨rfl, trivial⟩⟩⟩⟩⟩⟩ ?_
        exact hk6 _ _ _ _ _ hf
    · refine r_icmp_ge (pc := 71) (tgt := 181) h dX7_isAllowed_71 (by decide) (fun q => absurd q hc9) (fun _ => ?_)
      refine r_aload_n (pc := 74) h dX7_isAllowed_74 rfl ?_
      refine gf_X7_43 (pc := 75) h dX7_isAllowed_75 ?_
      refine r_bipush (pc := 78) (v := 8) h dX7_isAllowed_78 (by decide) ?_
      refine r_iload_n (pc := 80) h dX7_isAllowed_80 rfl ?_
      refine r_imul (pc := 81) h dX7_isAllowed_81 ?_
      refine r_iload (pc := 82) h dX7_isAllowed_82 rfl ?_
      refine r_iadd (pc := 84) h dX7_isAllowed_84 ?_
      refine p_g hf (fun hi14 hf => ?_)
      refine r_iald (pc := 85) (k := 12) (v := (u 12 ((8 * l2) + l7).toNatClampNeg)) h hshM_12 hi14 rfl dX7_isAllowed_85 ?_
      refine r_istore (pc := 86) (L' := [some (.inr 0), some (.inl l1), some (.inl l2), some (.inl l3), some (.inl l4), some (.inl l5), some (.inl l6), some (.inl l7), some (.inl (u 12 ((8 * l2) + l7).toNatClampNeg))]) h dX7_isAllowed_86 (by decide) rfl ?_
      refine r_iload (pc := 88) h dX7_isAllowed_88 rfl ?_
      refine r_aload_n (pc := 90) h dX7_isAllowed_90 rfl ?_
      refine gf_X7_13 (pc := 91) h dX7_isAllowed_91 ?_
      refine r_iload (pc := 94) h dX7_isAllowed_94 rfl ?_
      refine p_g hf (fun hi15 hf => ?_)
      refine r_iald (pc := 96) (k := 2) (v := (u 2 (u 12 ((8 * l2) + l7).toNatClampNeg).toNatClampNeg)) h hshM_2 hi15 rfl dX7_isAllowed_96 ?_
      refine r_aload_n (pc := 97) h dX7_isAllowed_97 rfl ?_
      refine gf_X7_13 (pc := 98) h dX7_isAllowed_98 ?_
      refine r_iload (pc := 101) h dX7_isAllowed_101 rfl ?_
      refine p_g hf (fun hi16 hf => ?_)
      refine r_iald (pc := 103) (k := 2) (v := (u 2 l6.toNatClampNeg)) h hshM_2 hi16 rfl dX7_isAllowed_103 ?_
      refine p_ite hf (fun hc17 hf => ?_) (fun hc17 hf => ?_)
      · refine r_icmp_ne (pc := 104) (tgt := 123) h dX7_isAllowed_104 (by decide) (fun q => absurd hc17 q) (fun _ => ?_)
        refine r_iload (pc := 107) h dX7_isAllowed_107 rfl ?_
        refine r_iload (pc := 109) h dX7_isAllowed_109 rfl ?_
        refine p_ite hf (fun hc18 hf => ?_) (fun hc18 hf => ?_)
        · refine r_icmp_gt (pc := 111) (tgt := 123) h dX7_isAllowed_111 (by decide) (fun _ => ?_) (fun q => absurd hc18 q)
          refine r_iconst (pc := 123) (v := 1) h dX7_isAllowed_123 (by decide) ?_
          refine r_goto (pc := 124) (tgt := 128) h dX7_isAllowed_124 (by decide) ?_
          refine r_le [some (.inr 0), some (.inl l1), some (.inl l2), some (.inl l3), none, some (.inl l5), some (.inl l6), some (.inl l7), some (.inl (u 12 ((8 * l2) + l7).toNatClampNeg))] ⟨rfl, ⟨rfl, ⟨rfl, ⟨rfl, ⟨rfl, ⟨rfl, ⟨rfl, ⟨rfl, trivial⟩⟩⟩⟩⟩⟩⟩⟩ ?_
          exact w_X7_isAllowed_128 h hr (fun x0 x1 x2 x3 x4 x5 x6 e9 => ih x0 x1 x2 x3 x4 x5 x6 e9) _ _ _ _ _ _ _ _ _ hf
        · refine r_icmp_gt (pc := 111) (tgt := 123) h dX7_isAllowed_111 (by decide) (fun q => absurd q hc18) (fun _ => ?_)
          refine r_iload_n (pc := 114) h dX7_isAllowed_114 rfl ?_
          refine r_iload (pc := 115) h dX7_isAllowed_115 rfl ?_
          refine p_b hf (fun q19 e20 hf => ?_)
          refine r_cSi (pc := 117) (st := [.inl l4]) h [.inl l3, .inl l7] cs_X7_has wm_X7_119 (c_X7_has e20) ⟨rfl, rfl, Nat.le_of_ble_eq_true rfl, Nat.le_of_ble_eq_true rfl⟩ (Nat.le_of_ble_eq_true rfl) dX7_isAllowed_117 ?_
          refine p_ite hf (fun hc21 hf => ?_) (fun hc21 hf => ?_)
          · refine r_if_eq (pc := 120) (tgt := 127) h dX7_isAllowed_120 (by decide) (fun _ => ?_) (fun q => absurd hc21 q)
            refine r_iconst (pc := 127) (v := 0) h dX7_isAllowed_127 (by decide) ?_
            refine r_le [some (.inr 0), some (.inl l1), some (.inl l2), some (.inl l3), none, some (.inl l5), some (.inl l6), some (.inl l7), some (.inl (u 12 ((8 * l2) + l7).toNatClampNeg))] ⟨rfl, ⟨rfl, ⟨rfl, ⟨rfl, ⟨rfl, ⟨rfl, ⟨rfl, ⟨rfl, trivial⟩⟩⟩⟩⟩⟩⟩⟩ ?_
            exact w_X7_isAllowed_128 h hr (fun x0 x1 x2 x3 x4 x5 x6 e9 => ih x0 x1 x2 x3 x4 x5 x6 e9) _ _ _ _ _ _ _ _ _ hf
          · refine r_if_eq (pc := 120) (tgt := 127) h dX7_isAllowed_120 (by decide) (fun q => absurd q hc21) (fun _ => ?_)
            refine r_iconst (pc := 123) (v := 1) h dX7_isAllowed_123 (by decide) ?_
            refine r_goto (pc := 124) (tgt := 128) h dX7_isAllowed_124 (by decide) ?_
            refine r_le [some (.inr 0), some (.inl l1), some (.inl l2), some (.inl l3), none, some (.inl l5), some (.inl l6), some (.inl l7), some (.inl (u 12 ((8 * l2) + l7).toNatClampNeg))] ⟨rfl, ⟨rfl, ⟨rfl, ⟨rfl, ⟨rfl, ⟨rfl, ⟨rfl, ⟨rfl, trivial⟩⟩⟩⟩⟩⟩⟩⟩ ?_
            exact w_X7_isAllowed_128 h hr (fun x0 x1 x2 x3 x4 x5 x6 e9 => ih x0 x1 x2 x3 x4 x5 x6 e9) _ _ _ _ _ _ _ _ _ hf
      · refine r_icmp_ne (pc := 104) (tgt := 123) h dX7_isAllowed_104 (by decide) (fun _ => ?_) (fun q => absurd q hc17)
        refine r_iconst (pc := 123) (v := 1) h dX7_isAllowed_123 (by decide) ?_
        refine r_goto (pc := 124) (tgt := 128) h dX7_isAllowed_124 (by decide) ?_
        refine r_le [some (.inr 0), some (.inl l1), some (.inl l2), some (.inl l3), none, some (.inl l5), some (.inl l6), some (.inl l7), some (.inl (u 12 ((8 * l2) + l7).toNatClampNeg))] ⟨rfl, ⟨rfl, ⟨rfl, ⟨rfl, ⟨rfl, ⟨rfl, ⟨rfl, ⟨rfl, trivial⟩⟩⟩⟩⟩⟩⟩⟩ ?_
        exact w_X7_isAllowed_128 h hr (fun x0 x1 x2 x3 x4 x5 x6 e9 => ih x0 x1 x2 x3 x4 x5 x6 e9) _ _ _ _ _ _ _ _ _ hf
set_option maxRecDepth 100000 in
set_option maxHeartbeats 4000000 in
theorem w_X7_isAllowed_6 {K : Kx} {E : Ex} (h : Ok shM K E RX7 cX7_isAllowed 9 rm_X7_isAllowed) {r : Int32} {u : St} (hr : RetZ shM K E cX7_isAllowed 9 r u) : ∀ (n : Nat) (l1 l2 l3 l4 l5 : Int32), f_X7_isAllowed_6 u n l1 l2 l3 l4 l5 = some r → Vd shM K E 9 6 [some (.inr 0), some (.inl l1), some (.inl l2), some (.inl l3), some (.inl l4), some (.inl l5), none, none, none] [] u := by
  intro n
  induction n with
  | zero => intro l1 l2 l3 l4 l5 hf; cases hf
  | succ n ih =>
    intro l1 l2 l3 l4 l5 hf
    refine r_iload (pc := 6) h dX7_isAllowed_6 rfl ?_
    refine r_aload_n (pc := 8) h dX7_isAllowed_8 rfl ?_
    refine gf_X7_40 (pc := 9) h dX7_isAllowed_9 ?_
    refine r_iload_n (pc := 12) h dX7_isAllowed_12 rfl ?_
    refine p_g hf (fun hi22 hf => ?_)
    refine r_iald (pc := 13) (k := 11) (v := (u 11 l2.toNatClampNeg)) h hshM_11 hi22 rfl dX7_isAllowed_13 ?_
    refine p_ite hf (fun hc23 hf => ?_) (fun hc23 hf => ?_)
    · refine r_icmp_ge (pc := 14) (tgt := 218) h dX7_isAllowed_14 (by decide) (fun _ => ?_) (fun q => absurd hc23 q)
      refine r_iload (pc := 218) h dX7_isAllowed_218 rfl ?_
      refine p_gp hf (fun hc24 hf => ?_)
      have hf := Option.some.inj hf
      subst hf
      exact hr 220 _ dX7_isAllowed_220 (z01 hc24)
    · refine r_icmp_ge (pc := 14) (tgt := 218) h dX7_isAllowed_14 (by decide) (fun q => absurd q hc23) (fun _ => ?_)
      refine r_aload_n (pc := 17) h dX7_isAllowed_17 rfl ?_
      refine gf_X7_43 (pc := 18) h dX7_isAllowed_18 ?_
      refine r_bipush (pc := 21) (v := 8) h dX7_isAllowed_21 (by decide) ?_
      refine r_iload_n (pc := 23) h dX7_isAllowed_23 rfl ?_
      refine r_imul (pc := 24) h dX7_isAllowed_24 ?_
      refine r_iload (pc := 25) h dX7_isAllowed_25 rfl ?_
      refine r_iadd (pc := 27) h dX7_isAllowed_27 ?_
      refine p_g hf (fun hi25 hf => ?_)
      refine r_iald (pc := 28) (k := 12) (v := (u 12 ((8 * l2) + l5).toNatClampNeg)) h hshM_12 hi25 rfl dX7_isAllowed_28 ?_
      refine r_istore (pc := 29) (L' := [some (.inr 0), some (.inl l1), some (.inl l2), some (.inl l3), some (.inl l4), some (.inl l5), some (.inl (u 12 ((8 * l2) + l5).toNatClampNeg)), none, none]) h dX7_isAllowed_29 (by decide) rfl ?_
      refine r_iload_n (pc := 31) h dX7_isAllowed_31 rfl ?_
      refine r_iload (pc := 32) h dX7_isAllowed_32 rfl ?_
      refine p_b hf (fun q26 e27 hf => ?_)
      refine r_cSi (pc := 34) (st := []) h [.inl l3, .inl l5] cs_X7_has wm_X7_119 (c_X7_has e27) ⟨rfl, rfl, Nat.le_of_ble_eq_true rfl, Nat.le_of_ble_eq_true rfl⟩ (Nat.le_of_ble_eq_true rfl) dX7_isAllowed_34 ?_
      refine p_ite hf (fun hc28 hf => ?_) (fun hc28 hf => ?_)
      · refine r_if_eq (pc := 37) (tgt := 212) h dX7_isAllowed_37 (by decide) (fun _ => ?_) (fun q => absurd hc28 q)
        refine r_iinc (pc := 212) (v := (l5 + 1)) (L' := [some (.inr 0), some (.inl l1), some (.inl l2), some (.inl l3), some (.inl l4), some (.inl (l5 + 1)), some (.inl (u 12 ((8 * l2) + l5).toNatClampNeg)), none, none]) h dX7_isAllowed_212 rfl rfl (by decide) rfl ?_
        refine r_goto (pc := 215) (tgt := 6) h dX7_isAllowed_215 (by decide) ?_
        refine r_le [some (.inr 0), some (.inl l1), some (.inl l2), some (.inl l3), some (.inl l4), some (.inl (l5 + 1)), none, none, none] ⟨rfl, ⟨rfl, ⟨rfl, ⟨rfl, ⟨rfl, ⟨rfl, trivial⟩⟩⟩⟩⟩⟩ ?_
        exact ih _ _ _ _ _ hf
      · refine r_if_eq (pc := 37) (tgt := 212) h dX7_isAllowed_37 (by decide) (fun q => absurd q hc28) (fun _ => ?_)
        refine r_iload (pc := 40) h dX7_isAllowed_40 rfl ?_
        refine r_aload_n (pc := 42) h dX7_isAllowed_42 rfl ?_
        refine r_iload_n (pc := 43) h dX7_isAllowed_43 rfl ?_
        refine r_iload (pc := 44) h dX7_isAllowed_44 rfl ?_
        refine p_b hf (fun q29 e30 hf => ?_)
        refine r_cVi (pc := 46) (k := 0) (st := [.inl l4]) h [.inl l1, .inl (u 12 ((8 * l2) + l5).toNatClampNeg)] cv_X7_rowOf wm_X7_115 (c_X7_rowOf e30) ⟨rfl, rfl, Nat.le_of_ble_eq_true rfl, Nat.le_of_ble_eq_true rfl⟩ hshM_0 rfl rfl (Nat.le_of_ble_eq_true rfl) dX7_isAllowed_46 ?_
        refine p_ite hf (fun hc31 hf => ?_) (fun hc31 hf => ?_)
        · refine r_if_ge (pc := 49) (tgt := 56) h dX7_isAllowed_49 (by decide) (fun _ => ?_) (fun q => absurd hc31 q)
          refine r_iconst (pc := 56) (v := 0) h dX7_isAllowed_56 (by decide) ?_
          refine r_iand (pc := 57) h dX7_isAllowed_57 ?_
          refine r_istore (pc := 58) (L' := [some (.inr 0), some (.inl l1), some (.inl l2), some (.inl l3), some (.inl (l4 &&& 0)), some (.inl l5), some (.inl (u 12 ((8 * l2) + l5).toNatClampNeg)), none, none]) h dX7_isAllowed_58 (by decide) rfl ?_
          refine r_iconst (pc := 60) (v := 0) h dX7_isAllowed_60 (by decide) ?_
          refine r_istore (pc := 61) (L' := [some (.inr 0), some (.inl l1), some (.inl l2), some (.inl l3), some (.inl (l4 &&& 0)), some (.inl l5), some (.inl (u 12 ((8 * l2) + l5).toNatClampNeg)), some (.inl 0), none]) h dX7_isAllowed_61 (by decide) rfl ?_
          exact w_X7_isAllowed_63 h hr (fun x0 x1 x2 x3 x4 e9 => ih x0 x1 x2 x3 x4 e9) FU _ _ _ _ _ _ _ hf
        · refine r_if_ge (pc := 49) (tgt := 56) h dX7_isAllowed_49 (by decide) (fun q => absurd q hc31) (fun _ => ?_)
          refine r_iconst (pc := 52) (v := 1) h dX7_isAllowed_52 (by decide) ?_
          refine r_goto (pc := 53) (tgt := 57) h dX7_isAllowed_53 (by decide) ?_
          refine r_iand (pc := 57) h dX7_isAllowed_57 ?_
          refine r_istore (pc := 58) (L' := [some (.inr 0), some (.inl l1), some (.inl l2), some (.inl l3), some (.inl (l4 &&& 1)), some (.inl l5), some (.inl (u 12 ((8 * l2) + l5).toNatClampNeg)), none, none]) h dX7_isAllowed_58 (by decide) rfl ?_
          refine r_iconst (pc := 60) (v := 0) h dX7_isAllowed_60 (by decide) ?_
          refine r_istore (pc := 61) (L' := [some (.inr 0), some (.inl l1), some (.inl l2), some (.inl l3), some (.inl (l4 &&& 1)), some (.inl l5), some (.inl (u 12 ((8 * l2) + l5).toNatClampNeg)), some (.inl 0), none]) h dX7_isAllowed_61 (by decide) rfl ?_
          exact w_X7_isAllowed_63 h hr (fun x0 x1 x2 x3 x4 e9 => ih x0 x1 x2 x3 x4 e9) FU _ _ _ _ _ _ _ hf
set_option maxRecDepth 100000 in
set_option maxHeartbeats 4000000 in
theorem w_X7_isAllowed_0 {K : Kx} {E : Ex} (h : Ok shM K E RX7 cX7_isAllowed 9 rm_X7_isAllowed) {r : Int32} {u : St} (hr : RetZ shM K E cX7_isAllowed 9 r u) (l1 l2 l3 : Int32) (hf : f_X7_isAllowed u l1 l2 l3 = some r) : Vd shM K E 9 0 [some (.inr 0), some (.inl l1), some (.inl l2), some (.inl l3), none, none, none, none, none] [] u := by
  refine r_iconst (pc := 0) (v := 1) h dX7_isAllowed_0 (by decide) ?_
  refine r_istore (pc := 1) (L' := [some (.inr 0), some (.inl l1), some (.inl l2), some (.inl l3), some (.inl 1), none, none, none, none]) h dX7_isAllowed_1 (by decide) rfl ?_
  refine r_iconst (pc := 3) (v := 0) h dX7_isAllowed_3 (by decide) ?_
  refine r_istore (pc := 4) (L' := [some (.inr 0), some (.inl l1), some (.inl l2), some (.inl l3), some (.inl 1), some (.inl 0), none, none, none]) h dX7_isAllowed_4 (by decide) rfl ?_
  exact w_X7_isAllowed_6 h hr FU _ _ _ _ _ hf
theorem c_X7_isAllowed {u : St} {l1 l2 l3 : Int32} {r : Int32} (hf : f_X7_isAllowed u l1 l2 l3 = some r) : CtI shM yX7_isAllowed cX7_isAllowed 9 (some .boolean) rm_X7_isAllowed [.inr 0, .inl l1, .inl l2, .inl l3] u r u := ct_Z (by decide +kernel) (Nat.le_of_ble_eq_true rfl) (fun K E h hr => w_X7_isAllowed_0 h hr _ _ _ hf)
set_option maxRecDepth 100000 in
set_option maxHeartbeats 4000000 in
theorem w_X7_allowed_0 {K : Kx} {E : Ex} (h : Ok shM K E RX7 cX7_allowed 4 rm_X7_allowed) {r : Int32 × St} (hr : RetI shM K E cX7_allowed 4 r.1 r.2) (u : St) (l1 l2 l3 : Int32) (hf : f_X7_allowed u l1 l2 l3 = some r) : Vd shM K E 4 0 [some (.inr 0), some (.inl l1), some (.inl l2), some (.inl l3)] [] u := by
  refine r_aload_n (pc := 0) h dX7_allowed_0 rfl ?_
  refine r_iload_n (pc := 1) h dX7_allowed_1 rfl ?_
  refine r_iload_n (pc := 2) h dX7_allowed_2 rfl ?_
  refine r_iload_n (pc := 3) h dX7_allowed_3 rfl ?_
  refine p_b hf (fun q1 e2 hf => ?_)
  refine r_cVi (pc := 4) (k := 0) (st := []) h [.inl l1, .inl l2, .inl l3] cv_X7_isChange wm_X7_127 (c_X7_isChange e2) ⟨rfl, rfl, Nat.le_of_ble_eq_true rfl, Nat.le_of_ble_eq_true rfl⟩ hshM_0 rfl rfl (Nat.le_of_ble_eq_true rfl) dX7_allowed_4 ?_
  refine p_ite hf (fun hc3 hf => ?_) (fun hc3 hf => ?_)
  · refine r_if_ne (pc := 7) (tgt := 16) h dX7_allowed_7 (by decide) (fun q => absurd hc3 q) (fun _ => ?_)
    refine r_aload_n (pc := 10) h dX7_allowed_10 rfl ?_
    refine r_iconst (pc := 11) (v := 1) h dX7_allowed_11 (by decide) ?_
    refine p_b hf (fun q7 e8 hf => ?_)
    refine r_cVi (pc := 12) (k := 0) (st := []) h [.inl 1] cv_X7_finding wm_X7_104 (c_X7_finding e8) ⟨rfl, rfl, Nat.le_of_ble_eq_true rfl, Nat.le_of_ble_eq_true rfl⟩ hshM_0 rfl rfl (Nat.le_of_ble_eq_true rfl) dX7_allowed_12 ?_
    have hf := Option.some.inj hf
    subst hf
    exact hr 15 _ dX7_allowed_15
  · refine r_if_ne (pc := 7) (tgt := 16) h dX7_allowed_7 (by decide) (fun _ => ?_) (fun q => absurd q hc3)
    refine r_aload_n (pc := 16) h dX7_allowed_16 rfl ?_
    refine r_iload_n (pc := 17) h dX7_allowed_17 rfl ?_
    refine r_iload_n (pc := 18) h dX7_allowed_18 rfl ?_
    refine r_iload_n (pc := 19) h dX7_allowed_19 rfl ?_
    refine p_b hf (fun q4 e5 hf => ?_)
    refine r_cVi (pc := 20) (k := 0) (st := []) h [.inl l1, .inl l2, .inl l3] cv_X7_isAllowed wm_X7_130 (c_X7_isAllowed e5) ⟨rfl, rfl, Nat.le_of_ble_eq_true rfl, Nat.le_of_ble_eq_true rfl⟩ hshM_0 rfl rfl (Nat.le_of_ble_eq_true rfl) dX7_allowed_20 ?_
    refine p_ite hf (fun hc6 hf => ?_) (fun hc6 hf => ?_)
    · refine r_if_eq (pc := 23) (tgt := 30) h dX7_allowed_23 (by decide) (fun _ => ?_) (fun q => absurd hc6 q)
      refine r_iconst (pc := 30) (v := 0) h dX7_allowed_30 (by decide) ?_
      have hf := Option.some.inj hf
      subst hf
      exact hr 31 _ dX7_allowed_31
    · refine r_if_eq (pc := 23) (tgt := 30) h dX7_allowed_23 (by decide) (fun q => absurd q hc6) (fun _ => ?_)
      refine r_iconst (pc := 26) (v := 1) h dX7_allowed_26 (by decide) ?_
      refine r_goto (pc := 27) (tgt := 31) h dX7_allowed_27 (by decide) ?_
      have hf := Option.some.inj hf
      subst hf
      exact hr 31 _ dX7_allowed_31
theorem c_X7_allowed {u : St} {l1 l2 l3 : Int32} {r : Int32 × St} (hf : f_X7_allowed u l1 l2 l3 = some r) : CtI shM yX7_allowed cX7_allowed 4 (some .int) rm_X7_allowed [.inr 0, .inl l1, .inl l2, .inl l3] u r.1 r.2 := ct_I (by decide +kernel) (Nat.le_of_ble_eq_true rfl) (fun K E h hr => w_X7_allowed_0 h hr _ _ _ _ hf)
set_option maxRecDepth 100000 in
set_option maxHeartbeats 4000000 in
theorem w_X7_isOff_0 {K : Kx} {E : Ex} (h : Ok shM K E RX7 cX7_isOff 4 rm_X7_isOff) {r : Int32} {u : St} (hr : RetZ shM K E cX7_isOff 4 r u) (l1 l2 : Int32) (hf : f_X7_isOff u l1 l2 = some r) : Vd shM K E 4 0 [some (.inr 0), some (.inl l1), some (.inl l2), none] [] u := by
  refine r_aload_n (pc := 0) h dX7_isOff_0 rfl ?_
  refine r_iload_n (pc := 1) h dX7_isOff_1 rfl ?_
  refine r_iload_n (pc := 2) h dX7_isOff_2 rfl ?_
  refine p_b hf (fun q1 e2 hf => ?_)
  refine r_cVi (pc := 3) (k := 0) (st := []) h [.inl l1, .inl l2] cv_X7_rowOf wm_X7_115 (c_X7_rowOf e2) ⟨rfl, rfl, Nat.le_of_ble_eq_true rfl, Nat.le_of_ble_eq_true rfl⟩ hshM_0 rfl rfl (Nat.le_of_ble_eq_true rfl) dX7_isOff_3 ?_
  refine r_istore_n (pc := 6) (L' := [some (.inr 0), some (.inl l1), some (.inl l2), some (.inl q1)]) h dX7_isOff_6 (by decide) rfl ?_
  refine r_iload_n (pc := 7) h dX7_isOff_7 rfl ?_
  refine p_ite hf (fun hc3 hf => ?_) (fun hc3 hf => ?_)
  · refine r_if_lt (pc := 8) (tgt := 26) h dX7_isOff_8 (by decide) (fun _ => ?_) (fun q => absurd hc3 q)
    refine r_iconst (pc := 26) (v := 0) h dX7_isOff_26 (by decide) ?_
    have hf := Option.some.inj hf
    subst hf
    exact hr 27 _ dX7_isOff_27 z_0
  · refine r_if_lt (pc := 8) (tgt := 26) h dX7_isOff_8 (by decide) (fun q => absurd q hc3) (fun _ => ?_)
    refine r_aload_n (pc := 11) h dX7_isOff_11 rfl ?_
    refine gf_X7_133 (pc := 12) (v := (u 0 26)) h rfl dX7_isOff_12 ?_
    refine r_iload_n (pc := 15) h dX7_isOff_15 rfl ?_
    refine p_b hf (fun q4 e5 hf => ?_)
    refine r_cSi (pc := 16) (st := []) h [.inl (u 0 26), .inl q1] cs_X7_has wm_X7_119 (c_X7_has e5) ⟨rfl, rfl, Nat.le_of_ble_eq_true rfl, Nat.le_of_ble_eq_true rfl⟩ (Nat.le_of_ble_eq_true rfl) dX7_isOff_16 ?_
    refine p_ite hf (fun hc6 hf => ?_) (fun hc6 hf => ?_)
    · refine r_if_eq (pc := 19) (tgt := 26) h dX7_isOff_19 (by decide) (fun _ => ?_) (fun q => absurd hc6 q)
      refine r_iconst (pc := 26) (v := 0) h dX7_isOff_26 (by decide) ?_
      have hf := Option.some.inj hf
      subst hf
      exact hr 27 _ dX7_isOff_27 z_0
    · refine r_if_eq (pc := 19) (tgt := 26) h dX7_isOff_19 (by decide) (fun q => absurd q hc6) (fun _ => ?_)
      refine r_iconst (pc := 22) (v := 1) h dX7_isOff_22 (by decide) ?_
      refine r_goto (pc := 23) (tgt := 27) h dX7_isOff_23 (by decide) ?_
      have hf := Option.some.inj hf
      subst hf
      exact hr 27 _ dX7_isOff_27 z_1
theorem c_X7_isOff {u : St} {l1 l2 : Int32} {r : Int32} (hf : f_X7_isOff u l1 l2 = some r) : CtI shM yX7_isOff cX7_isOff 4 (some .boolean) rm_X7_isOff [.inr 0, .inl l1, .inl l2] u r u := ct_Z (by decide +kernel) (Nat.le_of_ble_eq_true rfl) (fun K E h hr => w_X7_isOff_0 h hr _ _ hf)
set_option maxRecDepth 100000 in
set_option maxHeartbeats 4000000 in
theorem w_X7_mustOff_144 {K : Kx} {E : Ex} (h : Ok shM K E RX7 cX7_mustOff 11 rm_X7_mustOff) {r : Int32} {u : St} (hr : RetZ shM K E cX7_mustOff 11 r u) : ∀ (n : Nat) (l1 l2 l3 l5 l6 l7 l8 : Int32), f_X7_mustOff_144 u n l1 l2 l3 l5 l6 l7 l8 = some r → Vd shM K E 11 144 [some (.inr 0), some (.inl l1), some (.inl l2), some (.inl l3), none, some (.inl l5), some (.inl l6), some (.inl l7), some (.inl l8), none, none] [] u := by
  intro n
  induction n with
  | zero => intro l1 l2 l3 l5 l6 l7 l8 hf; cases hf
  | succ n ih =>
    intro l1 l2 l3 l5 l6 l7 l8 hf
    refine r_iload (pc := 144) h dX7_mustOff_144 rfl ?_
    refine r_iload (pc := 146) h dX7_mustOff_146 rfl ?_
    refine p_ite hf (fun hc1 hf => ?_) (fun hc1 hf => ?_)
    · refine r_icmp_ge (pc := 148) (tgt := 227) h dX7_mustOff_148 (by decide) (fun _ => ?_) (fun q => absurd hc1 q)
      refine r_iload (pc := 227) h dX7_mustOff_227 rfl ?_
      refine p_gp hf (fun hc2 hf => ?_)
      have hf := Option.some.inj hf
      subst hf
      exact hr 229 _ dX7_mustOff_229 (z01 hc2)
    · refine r_icmp_ge (pc := 148) (tgt := 227) h dX7_mustOff_148 (by decide) (fun q => absurd q hc1) (fun _ => ?_)
      refine r_aload_n (pc := 151) h dX7_mustOff_151 rfl ?_
      refine gf_X7_43 (pc := 152) h dX7_mustOff_152 ?_
      refine r_bipush (pc := 155) (v := 8) h dX7_mustOff_155 (by decide) ?_
      refine r_iload_n (pc := 157) h dX7_mustOff_157 rfl ?_
      refine r_imul (pc := 158) h dX7_mustOff_158 ?_
      refine r_iload (pc := 159) h dX7_mustOff_159 rfl ?_
      refine r_iadd (pc := 161) h dX7_mustOff_161 ?_
      refine p_g hf (fun hi3 hf => ?_)
      refine r_iald (pc := 162) (k := 12) (v := (u 12 ((8 * l2) + l8).toNatClampNeg)) h hshM_12 hi3 rfl dX7_mustOff_162 ?_
      refine r_istore (pc := 163) (L' := [some (.inr 0), some (.inl l1), some (.inl l2), some (.inl l3), none, some (.inl l5), some (.inl l6), some (.inl l7), some (.inl l8), some (.inl (u 12 ((8 * l2) + l8).toNatClampNeg)), none]) h dX7_mustOff_163 (by decide) rfl ?_
      refine r_iload (pc := 165) h dX7_mustOff_165 rfl ?_
      refine r_aload_n (pc := 167) h dX7_mustOff_167 rfl ?_
      refine gf_X7_13 (pc := 168) h dX7_mustOff_168 ?_
      refine r_iload (pc := 171) h dX7_mustOff_171 rfl ?_
      refine p_g hf (fun hi4 hf => ?_)
      refine r_iald (pc := 173) (k := 2) (v := (u 2 (u 12 ((8 * l2) + l8).toNatClampNeg).toNatClampNeg)) h hshM_2 hi4 rfl dX7_mustOff_173 ?_
      refine r_aload_n (pc := 174) h dX7_mustOff_174 rfl ?_
      refine gf_X7_13 (pc := 175) h dX7_mustOff_175 ?_
      refine r_iload (pc := 178) h dX7_mustOff_178 rfl ?_
      refine p_g hf (fun hi5 hf => ?_)
      refine r_iald (pc := 180) (k := 2) (v := (u 2 l5.toNatClampNeg)) h hshM_2 hi5 rfl dX7_mustOff_180 ?_
      refine p_ite hf (fun hc6 hf => ?_) (fun hc6 hf => ?_)
      · refine r_icmp_ne (pc := 181) (tgt := 217) h dX7_mustOff_181 (by decide) (fun q => absurd hc6 q) (fun _ => ?_)
        refine r_iload_n (pc := 184) h dX7_mustOff_184 rfl ?_
        refine r_iload (pc := 185) h dX7_mustOff_185 rfl ?_
        refine p_b hf (fun q7 e8 hf => ?_)
        refine r_cSi (pc := 187) (st := [.inl l7]) h [.inl l3, .inl l8] cs_X7_has wm_X7_119 (c_X7_has e8) ⟨rfl, rfl, Nat.le_of_ble_eq_true rfl, Nat.le_of_ble_eq_true rfl⟩ (Nat.le_of_ble_eq_true rfl) dX7_mustOff_187 ?_
        refine p_ite hf (fun hc9 hf => ?_) (fun hc9 hf => ?_)
        · refine r_if_ne (pc := 190) (tgt := 217) h dX7_mustOff_190 (by decide) (fun q => absurd hc9 q) (fun _ => ?_)
          refine r_aload_n (pc := 193) h dX7_mustOff_193 rfl ?_
          refine r_iload_n (pc := 194) h dX7_mustOff_194 rfl ?_
          refine r_iload (pc := 195) h dX7_mustOff_195 rfl ?_
          refine p_b hf (fun q10 e11 hf => ?_)
          refine r_cVi (pc := 197) (k := 0) (st := [.inl l7]) h [.inl l1, .inl (u 12 ((8 * l2) + l8).toNatClampNeg)] cv_X7_rowOf wm_X7_115 (c_X7_rowOf e11) ⟨rfl, rfl, Nat.le_of_ble_eq_true rfl, Nat.le_of_ble_eq_true rfl⟩ hshM_0 rfl rfl (Nat.le_of_ble_eq_true rfl) dX7_mustOff_197 ?_
          refine p_ite hf (fun hc12 hf => ?_) (fun hc12 hf => ?_)
          · refine r_if_lt (pc := 200) (tgt := 213) h dX7_mustOff_200 (by decide) (fun _ => ?_) (fun q => absurd hc12 q)
            refine r_iconst (pc := 213) (v := 1) h dX7_mustOff_213 (by decide) ?_
            refine r_goto (pc := 214) (tgt := 218) h dX7_mustOff_214 (by decide) ?_
            refine r_ior (pc := 218) h dX7_mustOff_218 ?_
            refine r_istore (pc := 219) (L' := [some (.inr 0), some (.inl l1), some (.inl l2), some (.inl l3), none, some (.inl l5), some (.inl l6), some (.inl (l7 ||| 1)), some (.inl l8), some (.inl (u 12 ((8 * l2) + l8).toNatClampNeg)), none]) h dX7_mustOff_219 (by decide) rfl ?_
            refine r_iinc (pc := 221) (v := (l8 + 1)) (L' := [some (.inr 0), some (.inl l1), some (.inl l2), some (.inl l3), none, some (.inl l5), some (.inl l6), some (.inl (l7 ||| 1)), some (.inl (l8 + 1)), some (.inl (u 12 ((8 * l2) + l8).toNatClampNeg)), none]) h dX7_mustOff_221 rfl rfl (by decide) rfl ?_
            refine r_goto (pc := 224) (tgt := 144) h dX7_mustOff_224 (by decide) ?_
            refine r_le [some (.inr 0), some (.inl l1), some (.inl l2), some (.inl l3), none, some (.inl l5), some (.inl l6), some (.inl (l7 ||| 1)), some (.inl (l8 + 1)), none, none] ⟨rfl, ⟨rfl, ⟨rfl, ⟨rfl, ⟨rfl, ⟨rfl, ⟨rfl, ⟨rfl, trivial⟩⟩⟩⟩⟩⟩⟩⟩ ?_
            exact ih _ _ _ _ _ _ _ hf
          · refine r_if_lt (pc := 200) (tgt := 213) h dX7_mustOff_200 (by decide) (fun q => absurd q hc12) (fun _ => ?_)
            refine r_aload_n (pc := 203) h dX7_mustOff_203 rfl ?_
            refine r_iload_n (pc := 204) h dX7_mustOff_204 rfl ?_
            refine r_iload (pc := 205) h dX7_mustOff_205 rfl ?_
            refine p_b hf (fun q13 e14 hf => ?_)
            refine r_cVi (pc := 207) (k := 0) (st := [.inl l7]) h [.inl l1, .inl (u 12 ((8 * l2) + l8).toNatClampNeg)] cv_X7_isOff wm_X7_136 (c_X7_isOff e14) ⟨rfl, rfl, Nat.le_of_ble_eq_true rfl, Nat.le_of_ble_eq_true rfl⟩ hshM_0 rfl rfl (Nat.le_of_ble_eq_true rfl) dX7_mustOff_207 ?_
            refine p_ite hf (fun hc15 hf => ?_) (fun hc15 hf => ?_)
            · refine r_if_eq (pc := 210) (tgt := 217) h dX7_mustOff_210 (by decide) (fun _ => ?_) (fun q => absurd hc15 q)
              refine r_iconst (pc := 217) (v := 0) h dX7_mustOff_217 (by decide) ?_
              refine r_ior (pc := 218) h dX7_mustOff_218 ?_
              refine r_istore (pc := 219) (L' := [some (.inr 0), some (.inl l1), some (.inl l2), some (.inl l3), none, some (.inl l5), some (.inl l6), some (.inl (l7 ||| 0)), some (.inl l8), some (.inl (u 12 ((8 * l2) + l8).toNatClampNeg)), none]) h dX7_mustOff_219 (by decide) rfl ?_
              refine r_iinc (pc := 221) (v := (l8 + 1)) (L' := [some (.inr 0), some (.inl l1), some (.inl l2), some (.inl l3), none, some (.inl l5), some (.inl l6), some (.inl (l7 ||| 0)), some (.inl (l8 + 1)), some (.inl (u 12 ((8 * l2) + l8).toNatClampNeg)), none]) h dX7_mustOff_221 rfl rfl (by decide) rfl ?_
              refine r_goto (pc := 224) (tgt := 144) h dX7_mustOff_224 (by decide) ?_
              refine r_le [some (.inr 0), some (.inl l1), some (.inl l2), some (.inl l3), none, some (.inl l5), some (.inl l6), some (.inl (l7 ||| 0)), some (.inl (l8 + 1)), none, none] ⟨rfl, ⟨rfl, ⟨rfl, ⟨rfl, ⟨rfl, ⟨rfl, ⟨rfl, ⟨rfl, trivial⟩⟩⟩⟩⟩⟩⟩⟩ ?_
              exact ih _ _ _ _ _ _ _ hf
            · refine r_if_eq (pc := 210) (tgt := 217) h dX7_mustOff_210 (by decide) (fun q => absurd q hc15) (fun _ => ?_)
              refine r_iconst (pc := 213) (v := 1) h dX7_mustOff_213 (by decide) ?_
              refine r_goto (pc := 214) (tgt := 218) h dX7_mustOff_214 (by decide) ?_
              refine r_ior (pc := 218) h dX7_mustOff_218 ?_
              refine r_istore (pc := 219) (L' := [some (.inr 0), some (.inl l1), some (.inl l2), some (.inl l3), none, some (.inl l5), some (.inl l6), some (.inl (l7 ||| 1)), some (.inl l8), some (.inl (u 12 ((8 * l2) + l8).toNatClampNeg)), none]) h dX7_mustOff_219 (by decide) rfl ?_
              refine r_iinc (pc := 221) (v := (l8 + 1)) (L' := [some (.inr 0), some (.inl l1), some (.inl l2), some (.inl l3), none, some (.inl l5), some (.inl l6), some (.inl (l7 ||| 1)), some (.inl (l8 + 1)), some (.inl (u 12 ((8 * l2) + l8).toNatClampNeg)), none]) h dX7_mustOff_221 rfl rfl (by decide) rfl ?_
              refine r_goto (pc := 224) (tgt := 144) h dX7_mustOff_224 (by decide) ?_
              refine r_le [some (.inr 0), some (.inl l1), some (.inl l2), some (.inl l3), none, some (.inl l5), some (.inl l6), some (.inl (l7 ||| 1)), some (.inl (l8 + 1)), none, none] ⟨rfl, ⟨rfl, ⟨rfl, ⟨rfl, ⟨rfl, ⟨rfl, ⟨rfl, ⟨rfl, trivial⟩⟩⟩⟩⟩⟩⟩⟩ ?_
              exact ih _ _ _ _ _ _ _ hf
        · refine r_if_ne (pc := 190) (tgt := 217) h dX7_mustOff_190 (by decide) (fun _ => ?_) (fun q => absurd q hc9)
          refine r_iconst (pc := 217) (v := 0) h dX7_mustOff_217 (by decide) ?_
          refine r_ior (pc := 218) h dX7_mustOff_218 ?_
          refine r_istore (pc := 219) (L' := [some (.inr 0), some (.inl l1), some (.inl l2), some (.inl l3), none, some (.inl l5), some (.inl l6), some (.inl (l7 ||| 0)), some (.inl l8), some (.inl (u 12 ((8 * l2) + l8).toNatClampNeg)), none]) h dX7_mustOff_219 (by decide) rfl ?_
          refine r_iinc (pc := 221) (v := (l8 + 1)) (L' := [some (.inr 0), some (.inl l1), some (.inl l2), some (.inl l3), none, some (.inl l5), some (.inl l6), some (.inl (l7 ||| 0)), some (.inl (l8 + 1)), some (.inl (u 12 ((8 * l2) + l8).toNatClampNeg)), none]) h dX7_mustOff_221 rfl rfl (by decide) rfl ?_
          refine r_goto (pc := 224) (tgt := 144) h dX7_mustOff_224 (by decide) ?_
          refine r_le [some (.inr 0), some (.inl l1), some (.inl l2), some (.inl l3), none, some (.inl l5), some (.inl l6), some (.inl (l7 ||| 0)), some (.inl (l8 + 1)), none, none] ⟨rfl, ⟨rfl, ⟨rfl, ⟨rfl, ⟨rfl, ⟨rfl, ⟨rfl, ⟨rfl, trivial⟩⟩⟩⟩⟩⟩⟩⟩ ?_
          exact ih _ _ _ _ _ _ _ hf
      · refine r_icmp_ne (pc := 181) (tgt := 217) h dX7_mustOff_181 (by decide) (fun _ => ?_) (fun q => absurd q hc6)
        refine r_iconst (pc := 217) (v := 0) h dX7_mustOff_217 (by decide) ?_
        refine r_ior (pc := 218) h dX7_mustOff_218 ?_
        refine r_istore (pc := 219) (L' := [some (.inr 0), some (.inl l1), some (.inl l2), some (.inl l3), none, some (.inl l5), some (.inl l6), some (.inl (l7 ||| 0)), some (.inl l8), some (.inl (u 12 ((8 * l2) + l8).toNatClampNeg)), none]) h dX7_mustOff_219 (by decide) rfl ?_
        refine r_iinc (pc := 221) (v := (l8 + 1)) (L' := [some (.inr 0), some (.inl l1), some (.inl l2), some (.inl l3), none, some (.inl l5), some (.inl l6), some (.inl (l7 ||| 0)), some (.inl (l8 + 1)), some (.inl (u 12 ((8 * l2) + l8).toNatClampNeg)), none]) h dX7_mustOff_221 rfl rfl (by decide) rfl ?_
        refine r_goto (pc := 224) (tgt := 144) h dX7_mustOff_224 (by decide) ?_
        refine r_le [some (.inr 0), some (.inl l1), some (.inl l2), some (.inl l3), none, some (.inl l5), some (.inl l6), some (.inl (l7 ||| 0)), some (.inl (l8 + 1)), none, none] ⟨rfl, ⟨rfl, ⟨rfl, ⟨rfl, ⟨rfl, ⟨rfl, ⟨rfl, ⟨rfl, trivial⟩⟩⟩⟩⟩⟩⟩⟩ ?_
        exact ih _ _ _ _ _ _ _ hf
set_option maxRecDepth 100000 in
set_option maxHeartbeats 4000000 in
theorem w_X7_mustOff_38 {K : Kx} {E : Ex} (h : Ok shM K E RX7 cX7_mustOff 11 rm_X7_mustOff) {r : Int32} {u : St} (hr : RetZ shM K E cX7_mustOff 11 r u) : ∀ (n : Nat) (l1 l2 l3 l4 l5 l6 l7 l8 : Int32), f_X7_mustOff_38 u n l1 l2 l3 l4 l5 l6 l7 l8 = some r → Vd shM K E 11 38 [some (.inr 0), some (.inl l1), some (.inl l2), some (.inl l3), some (.inl l4), some (.inl l5), some (.inl l6), some (.inl l7), some (.inl l8), none, none] [] u := by
  intro n
  induction n with
  | zero => intro l1 l2 l3 l4 l5 l6 l7 l8 hf; cases hf
  | succ n ih =>
    intro l1 l2 l3 l4 l5 l6 l7 l8 hf
    refine r_iload (pc := 38) h dX7_mustOff_38 rfl ?_
    refine r_aload_n (pc := 40) h dX7_mustOff_40 rfl ?_
    refine gf_X7_40 (pc := 41) h dX7_mustOff_41 ?_
    refine r_iload_n (pc := 44) h dX7_mustOff_44 rfl ?_
    refine p_g hf (fun hi16 hf => ?_)
    refine r_iald (pc := 45) (k := 11) (v := (u 11 l1.toNatClampNeg)) h hshM_11 hi16 rfl dX7_mustOff_45 ?_
    refine p_ite hf (fun hc17 hf => ?_) (fun hc17 hf => ?_)
    · refine r_icmp_ge (pc := 46) (tgt := 141) h dX7_mustOff_46 (by decide) (fun _ => ?_) (fun q => absurd hc17 q)
      refine r_iconst (pc := 141) (v := 0) h dX7_mustOff_141 (by decide) ?_
      refine r_istore (pc := 142) (L' := [some (.inr 0), some (.inl l1), some (.inl l2), some (.inl l3), some (.inl l4), some (.inl l5), some (.inl l6), some (.inl l7), some (.inl 0), none, none]) h dX7_mustOff_142 (by decide) rfl ?_
      refine r_le [some (.inr 0), some (.inl l1), some (.inl l2), some (.inl l3), none, some (.inl l5), some (.inl l6), some (.inl l7), some (.inl 0), none, none] ⟨rfl, ⟨rfl, ⟨rfl, ⟨rfl, ⟨rfl, ⟨rfl, ⟨rfl, ⟨rfl, trivial⟩⟩⟩⟩⟩⟩⟩⟩ ?_
      exact w_X7_mustOff_144 h hr FU _ _ _ _ _ _ _ hf
    · refine r_icmp_ge (pc := 46) (tgt := 141) h dX7_mustOff_46 (by decide) (fun q => absurd q hc17) (fun _ => ?_)
      refine r_aload_n (pc := 49) h dX7_mustOff_49 rfl ?_
      refine gf_X7_43 (pc := 50) h dX7_mustOff_50 ?_
      refine r_bipush (pc := 53) (v := 8) h dX7_mustOff_53 (by decide) ?_
      refine r_iload_n (pc := 55) h dX7_mustOff_55 rfl ?_
      refine r_imul (pc := 56) h dX7_mustOff_56 ?_
      refine r_iload (pc := 57) h dX7_mustOff_57 rfl ?_
      refine r_iadd (pc := 59) h dX7_mustOff_59 ?_
      refine p_g hf (fun hi18 hf => ?_)
      refine r_iald (pc := 60) (k := 12) (v := (u 12 ((8 * l1) + l8).toNatClampNeg)) h hshM_12 hi18 rfl dX7_mustOff_60 ?_
      refine r_istore (pc := 61) (L' := [some (.inr 0), some (.inl l1), some (.inl l2), some (.inl l3), some (.inl l4), some (.inl l5), some (.inl l6), some (.inl l7), some (.inl l8), some (.inl (u 12 ((8 * l1) + l8).toNatClampNeg)), none]) h dX7_mustOff_61 (by decide) rfl ?_
      refine r_aload_n (pc := 63) h dX7_mustOff_63 rfl ?_
      refine r_iload_n (pc := 64) h dX7_mustOff_64 rfl ?_
      refine r_iload (pc := 65) h dX7_mustOff_65 rfl ?_
      refine p_b hf (fun q19 e20 hf => ?_)
      refine r_cVi (pc := 67) (k := 0) (st := []) h [.inl l2, .inl (u 12 ((8 * l1) + l8).toNatClampNeg)] cv_X7_rowOf wm_X7_115 (c_X7_rowOf e20) ⟨rfl, rfl, Nat.le_of_ble_eq_true rfl, Nat.le_of_ble_eq_true rfl⟩ hshM_0 rfl rfl (Nat.le_of_ble_eq_true rfl) dX7_mustOff_67 ?_
      refine r_istore (pc := 70) (L' := [some (.inr 0), some (.inl l1), some (.inl l2), some (.inl l3), some (.inl l4), some (.inl l5), some (.inl l6), some (.inl l7), some (.inl l8), some (.inl (u 12 ((8 * l1) + l8).toNatClampNeg)), some (.inl q19)]) h dX7_mustOff_70 (by decide) rfl ?_
      refine r_aload_n (pc := 72) h dX7_mustOff_72 rfl ?_
      refine gf_X7_13 (pc := 73) h dX7_mustOff_73 ?_
      refine r_iload (pc := 76) h dX7_mustOff_76 rfl ?_
      refine p_g hf (fun hi21 hf => ?_)
      refine r_iald (pc := 78) (k := 2) (v := (u 2 (u 12 ((8 * l1) + l8).toNatClampNeg).toNatClampNeg)) h hshM_2 hi21 rfl dX7_mustOff_78 ?_
      refine r_aload_n (pc := 79) h dX7_mustOff_79 rfl ?_
      refine gf_X7_13 (pc := 80) h dX7_mustOff_80 ?_
      refine r_iload (pc := 83) h dX7_mustOff_83 rfl ?_
      refine p_g hf (fun hi22 hf => ?_)
      refine r_iald (pc := 85) (k := 2) (v := (u 2 l5.toNatClampNeg)) h hshM_2 hi22 rfl dX7_mustOff_85 ?_
      refine p_ite hf (fun hc23 hf => ?_) (fun hc23 hf => ?_)
      · refine r_icmp_ne (pc := 86) (tgt := 135) h dX7_mustOff_86 (by decide) (fun q => absurd hc23 q) (fun _ => ?_)
        refine r_iload (pc := 89) h dX7_mustOff_89 rfl ?_
        refine r_iload (pc := 91) h dX7_mustOff_91 rfl ?_
        refine p_ite hf (fun hc24 hf => ?_) (fun hc24 hf => ?_)
        · refine r_icmp_ge (pc := 93) (tgt := 135) h dX7_mustOff_93 (by decide) (fun _ => ?_) (fun q => absurd hc24 q)
          refine r_iinc (pc := 135) (v := (l8 + 1)) (L' := [some (.inr 0), some (.inl l1), some (.inl l2), some (.inl l3), some (.inl l4), some (.inl l5), some (.inl l6), some (.inl l7), some (.inl (l8 + 1)), some (.inl (u 12 ((8 * l1) + l8).toNatClampNeg)), some (.inl q19)]) h dX7_mustOff_135 rfl rfl (by decide) rfl ?_
          refine r_goto (pc := 138) (tgt := 38) h dX7_mustOff_138 (by decide) ?_
          refine r_le [some (.inr 0), some (.inl l1), some (.inl l2), some (.inl l3), some (.inl l4), some (.inl l5), some (.inl l6), some (.inl l7), some (.inl (l8 + 1)), none, none] ⟨rfl, ⟨rfl, ⟨rfl, ⟨rfl, ⟨rfl, ⟨rfl, ⟨rfl, ⟨rfl, ⟨rfl, trivial⟩⟩⟩⟩⟩⟩⟩⟩⟩ ?_
          exact ih _ _ _ _ _ _ _ _ hf
        · refine r_icmp_ge (pc := 93) (tgt := 135) h dX7_mustOff_93 (by decide) (fun q => absurd q hc24) (fun _ => ?_)
          refine r_iload (pc := 96) h dX7_mustOff_96 rfl ?_
          refine r_aload_n (pc := 98) h dX7_mustOff_98 rfl ?_
          refine gf_X7_133 (pc := 99) (v := (u 0 26)) h rfl dX7_mustOff_99 ?_
          refine r_iload (pc := 102) h dX7_mustOff_102 rfl ?_
          refine p_b hf (fun q25 e26 hf => ?_)
          refine r_cSi (pc := 104) (st := [.inl l7]) h [.inl (u 0 26), .inl l8] cs_X7_has wm_X7_119 (c_X7_has e26) ⟨rfl, rfl, Nat.le_of_ble_eq_true rfl, Nat.le_of_ble_eq_true rfl⟩ (Nat.le_of_ble_eq_true rfl) dX7_mustOff_104 ?_
          refine p_ite hf (fun hc27 hf => ?_) (fun hc27 hf => ?_)
          · refine r_if_ne (pc := 107) (tgt := 127) h dX7_mustOff_107 (by decide) (fun q => absurd hc27 q) (fun _ => ?_)
            refine r_iload (pc := 110) h dX7_mustOff_110 rfl ?_
            refine p_ite hf (fun hc28 hf => ?_) (fun hc28 hf => ?_)
            · refine r_if_lt (pc := 112) (tgt := 131) h dX7_mustOff_112 (by decide) (fun _ => ?_) (fun q => absurd hc28 q)
              refine r_iconst (pc := 131) (v := 0) h dX7_mustOff_131 (by decide) ?_
              refine r_ior (pc := 132) h dX7_mustOff_132 ?_
              refine r_istore (pc := 133) (L' := [some (.inr 0), some (.inl l1), some (.inl l2), some (.inl l3), some (.inl l4), some (.inl l5), some (.inl l6), some (.inl (l7 ||| 0)), some (.inl l8), some (.inl (u 12 ((8 * l1) + l8).toNatClampNeg)), some (.inl q19)]) h dX7_mustOff_133 (by decide) rfl ?_
              refine r_iinc (pc := 135) (v := (l8 + 1)) (L' := [some (.inr 0), some (.inl l1), some (.inl l2), some (.inl l3), some (.inl l4), some (.inl l5), some (.inl l6), some (.inl (l7 ||| 0)), some (.inl (l8 + 1)), some (.inl (u 12 ((8 * l1) + l8).toNatClampNeg)), some (.inl q19)]) h dX7_mustOff_135 rfl rfl (by decide) rfl ?_
              refine r_goto (pc := 138) (tgt := 38) h dX7_mustOff_138 (by decide) ?_
              refine r_le [some (.inr 0), some (.inl l1), some (.inl l2), some (.inl l3), some (.inl l4), some (.inl l5), some (.inl l6), some (.inl (l7 ||| 0)), some (.inl (l8 + 1)), none, none] ⟨rfl, ⟨rfl, ⟨rfl, ⟨rfl, ⟨rfl, ⟨rfl, ⟨rfl, ⟨rfl, ⟨rfl, trivial⟩⟩⟩⟩⟩⟩⟩⟩⟩ ?_
              exact ih _ _ _ _ _ _ _ _ hf
            · refine r_if_lt (pc := 112) (tgt := 131) h dX7_mustOff_112 (by decide) (fun q => absurd q hc28) (fun _ => ?_)
              refine r_iload (pc := 115) h dX7_mustOff_115 rfl ?_
              refine p_ite hf (fun hc29 hf => ?_) (fun hc29 hf => ?_)
              · refine r_if_lt (pc := 117) (tgt := 131) h dX7_mustOff_117 (by decide) (fun _ => ?_) (fun q => absurd hc29 q)
                refine r_iconst (pc := 131) (v := 0) h dX7_mustOff_131 (by decide) ?_
                refine r_ior (pc := 132) h dX7_mustOff_132 ?_
                refine r_istore (pc := 133) (L' := [some (.inr 0), some (.inl l1), some (.inl l2), some (.inl l3), some (.inl l4), some (.inl l5), some (.inl l6), some (.inl (l7 ||| 0)), some (.inl l8), some (.inl (u 12 ((8 * l1) + l8).toNatClampNeg)), some (.inl q19)]) h dX7_mustOff_133 (by decide) rfl ?_
                refine r_iinc (pc := 135) (v := (l8 + 1)) (L' := [some (.inr 0), some (.inl l1), some (.inl l2), some (.inl l3), some (.inl l4), some (.inl l5), some (.inl l6), some (.inl (l7 ||| 0)), some (.inl (l8 + 1)), some (.inl (u 12 ((8 * l1) + l8).toNatClampNeg)), some (.inl q19)]) h dX7_mustOff_135 rfl rfl (by decide) rfl ?_
                refine r_goto (pc := 138) (tgt := 38) h dX7_mustOff_138 (by decide) ?_
                refine r_le [some (.inr 0), some (.inl l1), some (.inl l2), some (.inl l3), some (.inl l4), some (.inl l5), some (.inl l6), some (.inl (l7 ||| 0)), some (.inl (l8 + 1)), none, none] ⟨rfl, ⟨rfl, ⟨rfl, ⟨rfl, ⟨rfl, ⟨rfl, ⟨rfl, ⟨rfl, ⟨rfl, trivial⟩⟩⟩⟩⟩⟩⟩⟩⟩ ?_
                exact ih _ _ _ _ _ _ _ _ hf
              · refine r_if_lt (pc := 117) (tgt := 131) h dX7_mustOff_117 (by decide) (fun q => absurd q hc29) (fun _ => ?_)
                refine r_iload (pc := 120) h dX7_mustOff_120 rfl ?_
                refine r_iload (pc := 122) h dX7_mustOff_122 rfl ?_
                refine p_ite hf (fun hc30 hf => ?_) (fun hc30 hf => ?_)
                · refine r_icmp_le (pc := 124) (tgt := 131) h dX7_mustOff_124 (by decide) (fun _ => ?_) (fun q => absurd hc30 q)
                  refine r_iconst (pc := 131) (v := 0) h dX7_mustOff_131 (by decide) ?_
                  refine r_ior (pc := 132) h dX7_mustOff_132 ?_
                  refine r_istore (pc := 133) (L' := [some (.inr 0), some (.inl l1), some (.inl l2), some (.inl l3), some (.inl l4), some (.inl l5), some (.inl l6), some (.inl (l7 ||| 0)), some (.inl l8), some (.inl (u 12 ((8 * l1) + l8).toNatClampNeg)), some (.inl q19)]) h dX7_mustOff_133 (by decide) rfl ?_
                  refine r_iinc (pc := 135) (v := (l8 + 1)) (L' := [some (.inr 0), some (.inl l1), some (.inl l2), some (.inl l3), some (.inl l4), some (.inl l5), some (.inl l6), some (.inl (l7 ||| 0)), some (.inl (l8 + 1)), some (.inl (u 12 ((8 * l1) + l8).toNatClampNeg)), some (.inl q19)]) h dX7_mustOff_135 rfl rfl (by decide) rfl ?_
                  refine r_goto (pc := 138) (tgt := 38) h dX7_mustOff_138 (by decide) ?_
                  refine r_le [some (.inr 0), some (.inl l1), some (.inl l2), some (.inl l3), some (.inl l4), some (.inl l5), some (.inl l6), some (.inl (l7 ||| 0)), some (.inl (l8 + 1)), none, none] ⟨rfl, ⟨rfl, ⟨rfl, ⟨rfl, ⟨rfl, ⟨rfl, ⟨rfl, ⟨rfl, ⟨rfl, trivial⟩⟩⟩⟩⟩⟩⟩⟩⟩ ?_
                  exact ih _ _ _ _ _ _ _ _ hf
                · refine r_icmp_le (pc := 124) (tgt := 131) h dX7_mustOff_124 (by decide) (fun q => absurd q hc30) (fun _ => ?_)
                  refine r_iconst (pc := 127) (v := 1) h dX7_mustOff_127 (by decide) ?_
                  refine r_goto (pc := 128) (tgt := 132) h dX7_mustOff_128 (by decide) ?_
                  refine r_ior (pc := 132) h dX7_mustOff_132 ?_
                  refine r_istore (pc := 133) (L' := [some (.inr 0), some (.inl l1), some (.inl l2), some (.inl l3), some (.inl l4), some (.inl l5), some (.inl l6), some (.inl (l7 ||| 1)), some (.inl l8), some (.inl (u 12 ((8 * l1) + l8).toNatClampNeg)), some (.inl q19)]) h dX7_mustOff_133 (by decide) rfl ?_
                  refine r_iinc (pc := 135) (v := (l8 + 1)) (L' := [some (.inr 0), some (.inl l1), some (.inl l2), some (.inl l3), some (.inl l4), some (.inl l5), some (.inl l6), some (.inl (l7 ||| 1)), some (.inl (l8 + 1)), some (.inl (u 12 ((8 * l1) + l8).toNatClampNeg)), some (.inl q19)]) h dX7_mustOff_135 rfl rfl (by decide) rfl ?_
                  refine r_goto (pc := 138) (tgt := 38) h dX7_mustOff_138 (by decide) ?_
                  refine r_le [some (.inr 0), some (.inl l1), some (.inl l2), some (.inl l3), some (.inl l4), some (.inl l5), some (.inl l6), some (.inl (l7 ||| 1)), some (.inl (l8 + 1)), none, none] ⟨rfl, ⟨rfl, ⟨rfl, ⟨rfl, ⟨rfl, ⟨rfl, ⟨rfl, ⟨rfl, ⟨rfl, trivial⟩⟩⟩⟩⟩⟩⟩⟩⟩ ?_
                  exact ih _ _ _ _ _ _ _ _ hf
          · refine r_if_ne (pc := 107) (tgt := 127) h dX7_mustOff_107 (by decide) (fun _ => ?_) (fun q => absurd q hc27)
            refine r_iconst (pc := 127) (v := 1) h dX7_mustOff_127 (by decide) ?_
            refine r_goto (pc := 128) (tgt := 132) h dX7_mustOff_128 (by decide) ?_
            refine r_ior (pc := 132) h dX7_mustOff_132 ?_
            refine r_istore (pc := 133) (L' := [some (.inr 0), some (.inl l1), some (.inl l2), some (.inl l3), some (.inl l4), some (.inl l5), some (.inl l6), some (.inl (l7 ||| 1)), some (.inl l8), some (.inl (u 12 ((8 * l1) + l8).toNatClampNeg)), some (.inl q19)]) h dX7_mustOff_133 (by decide) rfl ?_
            refine r_iinc (pc := 135) (v := (l8 + 1)) (L' := [some (.inr 0), some (.inl l1), some (.inl l2), some (.inl l3), some (.inl l4), some (.inl l5), some (.inl l6), some (.inl (l7 ||| 1)), some (.inl (l8 + 1)), some (.inl (u 12 ((8 * l1) + l8).toNatClampNeg)), some (.inl q19)]) h dX7_mustOff_135 rfl rfl (by decide) rfl ?_
            refine r_goto (pc := 138) (tgt := 38) h dX7_mustOff_138 (by decide) ?_
            refine r_le [some (.inr 0), some (.inl l1), some (.inl l2), some (.inl l3), some (.inl l4), some (.inl l5), some (.inl l6), some (.inl (l7 ||| 1)), some (.inl (l8 + 1)), none, none] ⟨rfl, ⟨rfl, ⟨rfl, ⟨rfl, ⟨rfl, ⟨rfl, ⟨rfl, ⟨rfl, ⟨rfl, trivial⟩⟩⟩⟩⟩⟩⟩⟩⟩ ?_
            exact ih _ _ _ _ _ _ _ _ hf
      · refine r_icmp_ne (pc := 86) (tgt := 135) h dX7_mustOff_86 (by decide) (fun _ => ?_) (fun q => absurd q hc23)
        refine r_iinc (pc := 135) (v := (l8 + 1)) (L' := [some (.inr 0), some (.inl l1), some (.inl l2), some (.inl l3), some (.inl l4), some (.inl l5), some (.inl l6), some (.inl l7), some (.inl (l8 + 1)), some (.inl (u 12 ((8 * l1) + l8).toNatClampNeg)), some (.inl q19)]) h dX7_mustOff_135 rfl rfl (by decide) rfl ?_
        refine r_goto (pc := 138) (tgt := 38) h dX7_mustOff_138 (by decide) ?_
        refine r_le [some (.inr 0), some (.inl l1), some (.inl l2), some (.inl l3), some (.inl l4), some (.inl l5), some (.inl l6), some (.inl l7), some (.inl (l8 + 1)), none, none] ⟨rfl, ⟨rfl, ⟨rfl, ⟨rfl, ⟨rfl, ⟨rfl, ⟨rfl, ⟨rfl, ⟨rfl, trivial⟩⟩⟩⟩⟩⟩⟩⟩⟩ ?_
        exact ih _ _ _ _ _ _ _ _ hf
set_option maxRecDepth 100000 in
set_option maxHeartbeats 4000000 in
theorem w_X7_mustOff_0 {K : Kx} {E : Ex} (h : Ok shM K E RX7 cX7_mustOff 11 rm_X7_mustOff) {r : Int32} {u : St} (hr : RetZ shM K E cX7_mustOff 11 r u) (l1 l2 l3 l4 : Int32) (hf : f_X7_mustOff u l1 l2 l3 l4 = some r) : Vd shM K E 11 0 [some (.inr 0), some (.inl l1), some (.inl l2), some (.inl l3), some (.inl l4), none, none, none, none, none, none] [] u := by
  refine r_aload_n (pc := 0) h dX7_mustOff_0 rfl ?_
  refine gf_X7_43 (pc := 1) h dX7_mustOff_1 ?_
  refine r_bipush (pc := 4) (v := 8) h dX7_mustOff_4 (by decide) ?_
  refine r_iload_n (pc := 6) h dX7_mustOff_6 rfl ?_
  refine r_imul (pc := 7) h dX7_mustOff_7 ?_
  refine r_iload (pc := 8) h dX7_mustOff_8 rfl ?_
  refine r_iadd (pc := 10) h dX7_mustOff_10 ?_
  refine p_g hf (fun hi31 hf => ?_)
  refine r_iald (pc := 11) (k := 12) (v := (u 12 ((8 * l1) + l4).toNatClampNeg)) h hshM_12 hi31 rfl dX7_mustOff_11 ?_
  refine r_istore (pc := 12) (L' := [some (.inr 0), some (.inl l1), some (.inl l2), some (.inl l3), some (.inl l4), some (.inl (u 12 ((8 * l1) + l4).toNatClampNeg)), none, none, none, none, none]) h dX7_mustOff_12 (by decide) rfl ?_
  refine r_aload_n (pc := 14) h dX7_mustOff_14 rfl ?_
  refine r_iload_n (pc := 15) h dX7_mustOff_15 rfl ?_
  refine r_iload (pc := 16) h dX7_mustOff_16 rfl ?_
  refine p_b hf (fun q32 e33 hf => ?_)
  refine r_cVi (pc := 18) (k := 0) (st := []) h [.inl l2, .inl (u 12 ((8 * l1) + l4).toNatClampNeg)] cv_X7_rowOf wm_X7_115 (c_X7_rowOf e33) ⟨rfl, rfl, Nat.le_of_ble_eq_true rfl, Nat.le_of_ble_eq_true rfl⟩ hshM_0 rfl rfl (Nat.le_of_ble_eq_true rfl) dX7_mustOff_18 ?_
  refine r_istore (pc := 21) (L' := [some (.inr 0), some (.inl l1), some (.inl l2), some (.inl l3), some (.inl l4), some (.inl (u 12 ((8 * l1) + l4).toNatClampNeg)), some (.inl q32), none, none, none, none]) h dX7_mustOff_21 (by decide) rfl ?_
  refine r_iload (pc := 23) h dX7_mustOff_23 rfl ?_
  refine p_ite hf (fun hc34 hf => ?_) (fun hc34 hf => ?_)
  · refine r_if_ge (pc := 25) (tgt := 32) h dX7_mustOff_25 (by decide) (fun _ => ?_) (fun q => absurd hc34 q)
    refine r_iconst (pc := 32) (v := 0) h dX7_mustOff_32 (by decide) ?_
    refine r_istore (pc := 33) (L' := [some (.inr 0), some (.inl l1), some (.inl l2), some (.inl l3), some (.inl l4), some (.inl (u 12 ((8 * l1) + l4).toNatClampNeg)), some (.inl q32), some (.inl 0), none, none, none]) h dX7_mustOff_33 (by decide) rfl ?_
    refine r_iconst (pc := 35) (v := 0) h dX7_mustOff_35 (by decide) ?_
    refine r_istore (pc := 36) (L' := [some (.inr 0), some (.inl l1), some (.inl l2), some (.inl l3), some (.inl l4), some (.inl (u 12 ((8 * l1) + l4).toNatClampNeg)), some (.inl q32), some (.inl 0), some (.inl 0), none, none]) h dX7_mustOff_36 (by decide) rfl ?_
    exact w_X7_mustOff_38 h hr FU _ _ _ _ _ _ _ _ hf
  · refine r_if_ge (pc := 25) (tgt := 32) h dX7_mustOff_25 (by decide) (fun q => absurd q hc34) (fun _ => ?_)
    refine r_iconst (pc := 28) (v := 1) h dX7_mustOff_28 (by decide) ?_
    refine r_goto (pc := 29) (tgt := 33) h dX7_mustOff_29 (by decide) ?_
    refine r_istore (pc := 33) (L' := [some (.inr 0), some (.inl l1), some (.inl l2), some (.inl l3), some (.inl l4), some (.inl (u 12 ((8 * l1) + l4).toNatClampNeg)), some (.inl q32), some (.inl 1), none, none, none]) h dX7_mustOff_33 (by decide) rfl ?_
    refine r_iconst (pc := 35) (v := 0) h dX7_mustOff_35 (by decide) ?_
    refine r_istore (pc := 36) (L' := [some (.inr 0), some (.inl l1), some (.inl l2), some (.inl l3), some (.inl l4), some (.inl (u 12 ((8 * l1) + l4).toNatClampNeg)), some (.inl q32), some (.inl 1), some (.inl 0), none, none]) h dX7_mustOff_36 (by decide) rfl ?_
    exact w_X7_mustOff_38 h hr FU _ _ _ _ _ _ _ _ hf
theorem c_X7_mustOff {u : St} {l1 l2 l3 l4 : Int32} {r : Int32} (hf : f_X7_mustOff u l1 l2 l3 l4 = some r) : CtI shM yX7_mustOff cX7_mustOff 11 (some .boolean) rm_X7_mustOff [.inr 0, .inl l1, .inl l2, .inl l3, .inl l4] u r u := ct_Z (by decide +kernel) (Nat.le_of_ble_eq_true rfl) (fun K E h hr => w_X7_mustOff_0 h hr _ _ _ _ hf)
set_option maxRecDepth 100000 in
set_option maxHeartbeats 4000000 in
theorem w_X7_tell_146 {K : Kx} {E : Ex} (h : Ok shM K E RX7 cX7_tell 7 rm_X7_tell) {r : St} (hr : RetV shM K E cX7_tell 7 r) {k87 : St → Int32 → Int32 → Int32 → Int32 → Option (St)} (hk87 : ∀ (u : St) (l1 l2 l3 l5 : Int32), k87 u l1 l2 l3 l5 = some r → Vd shM K E 7 87 [some (.inr 0), some (.inl l1), some (.inl l2), some (.inl l3), none, some (.inl l5), none] [] u) (u : St) (l1 l2 l3 l5 s1 : Int32) (hf : f_X7_tell_146 k87 u l1 l2 l3 l5 s1 = some r) : Vd shM K E 7 146 [some (.inr 0), some (.inl l1), some (.inl l2), some (.inl l3), none, some (.inl l5), none] [.inl s1, .inr 0] u := by
  refine r_iconst (pc := 146) (v := 1) h dX7_tell_146 (by decide) ?_
  refine r_iload (pc := 147) h dX7_tell_147 rfl ?_
  refine r_ishl (pc := 149) h dX7_tell_149 ?_
  refine r_goto (pc := 150) (tgt := 154) h dX7_tell_150 (by decide) ?_
  refine r_ior (pc := 154) h dX7_tell_154 ?_
  refine pf_X7_143 (pc := 155) h dX7_tell_155 ?_
  refine r_iinc (pc := 158) (v := (l5 + 1)) (L' := [some (.inr 0), some (.inl l1), some (.inl l2), some (.inl l3), none, some (.inl (l5 + 1)), none]) h dX7_tell_158 rfl rfl (by decide) rfl ?_
  refine r_goto (pc := 161) (tgt := 87) h dX7_tell_161 (by decide) ?_
  exact hk87 _ _ _ _ _ hf
set_option maxRecDepth 100000 in
set_option maxHeartbeats 4000000 in
theorem w_X7_tell_87 {K : Kx} {E : Ex} (h : Ok shM K E RX7 cX7_tell 7 rm_X7_tell) {r : St} (hr : RetV shM K E cX7_tell 7 r) : ∀ (n : Nat) (u : St) (l1 l2 l3 l5 : Int32), f_X7_tell_87 n u l1 l2 l3 l5 = some r → Vd shM K E 7 87 [some (.inr 0), some (.inl l1), some (.inl l2), some (.inl l3), none, some (.inl l5), none] [] u := by
  intro n
  induction n with
  | zero => intro u l1 l2 l3 l5 hf; cases hf
  | succ n ih =>
    intro u l1 l2 l3 l5 hf
    refine r_iload (pc := 87) h dX7_tell_87 rfl ?_
    refine r_aload_n (pc := 89) h dX7_tell_89 rfl ?_
    refine gf_X7_40 (pc := 90) h dX7_tell_90 ?_
    refine r_iload_n (pc := 93) h dX7_tell_93 rfl ?_
    refine p_g hf (fun hi1 hf => ?_)
    refine r_iald (pc := 94) (k := 11) (v := (u 11 l2.toNatClampNeg)) h hshM_11 hi1 rfl dX7_tell_94 ?_
    refine p_ite hf (fun hc2 hf => ?_) (fun hc2 hf => ?_)
    · refine r_icmp_ge (pc := 95) (tgt := 164) h dX7_tell_95 (by decide) (fun _ => ?_) (fun q => absurd hc2 q)
      have hf := Option.some.inj hf
      subst hf
      exact hr 164 _ dX7_tell_164
    · refine r_icmp_ge (pc := 95) (tgt := 164) h dX7_tell_95 (by decide) (fun q => absurd q hc2) (fun _ => ?_)
      refine r_aload_n (pc := 98) h dX7_tell_98 rfl ?_
      refine gf_X7_43 (pc := 99) h dX7_tell_99 ?_
      refine r_bipush (pc := 102) (v := 8) h dX7_tell_102 (by decide) ?_
      refine r_iload_n (pc := 104) h dX7_tell_104 rfl ?_
      refine r_imul (pc := 105) h dX7_tell_105 ?_
      refine r_iload (pc := 106) h dX7_tell_106 rfl ?_
      refine r_iadd (pc := 108) h dX7_tell_108 ?_
      refine p_g hf (fun hi3 hf => ?_)
      refine r_iald (pc := 109) (k := 12) (v := (u 12 ((8 * l2) + l5).toNatClampNeg)) h hshM_12 hi3 rfl dX7_tell_109 ?_
      refine r_istore (pc := 110) (L' := [some (.inr 0), some (.inl l1), some (.inl l2), some (.inl l3), none, some (.inl l5), some (.inl (u 12 ((8 * l2) + l5).toNatClampNeg))]) h dX7_tell_110 (by decide) rfl ?_
      refine r_aload_n (pc := 112) h dX7_tell_112 rfl ?_
      refine r_dup (pc := 113) h dX7_tell_113 ?_
      refine gf_X7_143 (pc := 114) (v := (u 0 27)) h rfl dX7_tell_114 ?_
      refine r_iload_n (pc := 117) h dX7_tell_117 rfl ?_
      refine r_iload (pc := 118) h dX7_tell_118 rfl ?_
      refine p_b hf (fun q4 e5 hf => ?_)
      refine r_cSi (pc := 120) (st := [.inl (u 0 27), .inr 0]) h [.inl l3, .inl l5] cs_X7_has wm_X7_119 (c_X7_has e5) ⟨rfl, rfl, Nat.le_of_ble_eq_true rfl, Nat.le_of_ble_eq_true rfl⟩ (Nat.le_of_ble_eq_true rfl) dX7_tell_120 ?_
      refine p_ite hf (fun hc6 hf => ?_) (fun hc6 hf => ?_)
      · refine r_if_ne (pc := 123) (tgt := 153) h dX7_tell_123 (by decide) (fun q => absurd hc6 q) (fun _ => ?_)
        refine r_aload_n (pc := 126) h dX7_tell_126 rfl ?_
        refine r_iload_n (pc := 127) h dX7_tell_127 rfl ?_
        refine r_iload (pc := 128) h dX7_tell_128 rfl ?_
        refine p_b hf (fun q7 e8 hf => ?_)
        refine r_cVi (pc := 130) (k := 0) (st := [.inl (u 0 27), .inr 0]) h [.inl l1, .inl (u 12 ((8 * l2) + l5).toNatClampNeg)] cv_X7_rowOf wm_X7_115 (c_X7_rowOf e8) ⟨rfl, rfl, Nat.le_of_ble_eq_true rfl, Nat.le_of_ble_eq_true rfl⟩ hshM_0 rfl rfl (Nat.le_of_ble_eq_true rfl) dX7_tell_130 ?_
        refine p_ite hf (fun hc9 hf => ?_) (fun hc9 hf => ?_)
        · refine r_if_lt (pc := 133) (tgt := 146) h dX7_tell_133 (by decide) (fun _ => ?_) (fun q => absurd hc9 q)
          refine r_le [some (.inr 0), some (.inl l1), some (.inl l2), some (.inl l3), none, some (.inl l5), none] ⟨rfl, ⟨rfl, ⟨rfl, ⟨rfl, ⟨rfl, trivial⟩⟩⟩⟩⟩ ?_
          exact w_X7_tell_146 h hr (fun u9 x0 x1 x2 x3 e9 => ih u9 x0 x1 x2 x3 e9) _ _ _ _ _ _ hf
        · refine r_if_lt (pc := 133) (tgt := 146) h dX7_tell_133 (by decide) (fun q => absurd q hc9) (fun _ => ?_)
          refine r_aload_n (pc := 136) h dX7_tell_136 rfl ?_
          refine r_iload_n (pc := 137) h dX7_tell_137 rfl ?_
          refine r_iload (pc := 138) h dX7_tell_138 rfl ?_
          refine p_b hf (fun q10 e11 hf => ?_)
          refine r_cVi (pc := 140) (k := 0) (st := [.inl (u 0 27), .inr 0]) h [.inl l1, .inl (u 12 ((8 * l2) + l5).toNatClampNeg)] cv_X7_isOff wm_X7_136 (c_X7_isOff e11) ⟨rfl, rfl, Nat.le_of_ble_eq_true rfl, Nat.le_of_ble_eq_true rfl⟩ hshM_0 rfl rfl (Nat.le_of_ble_eq_true rfl) dX7_tell_140 ?_
          refine p_ite hf (fun hc12 hf => ?_) (fun hc12 hf => ?_)
          · refine r_if_eq (pc := 143) (tgt := 153) h dX7_tell_143 (by decide) (fun _ => ?_) (fun q => absurd hc12 q)
            refine r_iconst (pc := 153) (v := 0) h dX7_tell_153 (by decide) ?_
            refine r_ior (pc := 154) h dX7_tell_154 ?_
            refine pf_X7_143 (pc := 155) h dX7_tell_155 ?_
            refine r_iinc (pc := 158) (v := (l5 + 1)) (L' := [some (.inr 0), some (.inl l1), some (.inl l2), some (.inl l3), none, some (.inl (l5 + 1)), some (.inl (u 12 ((8 * l2) + l5).toNatClampNeg))]) h dX7_tell_158 rfl rfl (by decide) rfl ?_
            refine r_goto (pc := 161) (tgt := 87) h dX7_tell_161 (by decide) ?_
            refine r_le [some (.inr 0), some (.inl l1), some (.inl l2), some (.inl l3), none, some (.inl (l5 + 1)), none] ⟨rfl, ⟨rfl, ⟨rfl, ⟨rfl, ⟨rfl, trivial⟩⟩⟩⟩⟩ ?_
            exact ih _ _ _ _ _ hf
          · refine r_if_eq (pc := 143) (tgt := 153) h dX7_tell_143 (by decide) (fun q => absurd q hc12) (fun _ => ?_)
            refine r_le [some (.inr 0), some (.inl l1), some (.inl l2), some (.inl l3), none, some (.inl l5), none] ⟨rfl, ⟨rfl, ⟨rfl, ⟨rfl, ⟨rfl, trivial⟩⟩⟩⟩⟩ ?_
            exact w_X7_tell_146 h hr (fun u9 x0 x1 x2 x3 e9 => ih u9 x0 x1 x2 x3 e9) _ _ _ _ _ _ hf
      · refine r_if_ne (pc := 123) (tgt := 153) h dX7_tell_123 (by decide) (fun _ => ?_) (fun q => absurd q hc6)
        refine r_iconst (pc := 153) (v := 0) h dX7_tell_153 (by decide) ?_
        refine r_ior (pc := 154) h dX7_tell_154 ?_
        refine pf_X7_143 (pc := 155) h dX7_tell_155 ?_
        refine r_iinc (pc := 158) (v := (l5 + 1)) (L' := [some (.inr 0), some (.inl l1), some (.inl l2), some (.inl l3), none, some (.inl (l5 + 1)), some (.inl (u 12 ((8 * l2) + l5).toNatClampNeg))]) h dX7_tell_158 rfl rfl (by decide) rfl ?_
        refine r_goto (pc := 161) (tgt := 87) h dX7_tell_161 (by decide) ?_
        refine r_le [some (.inr 0), some (.inl l1), some (.inl l2), some (.inl l3), none, some (.inl (l5 + 1)), none] ⟨rfl, ⟨rfl, ⟨rfl, ⟨rfl, ⟨rfl, trivial⟩⟩⟩⟩⟩ ?_
        exact ih _ _ _ _ _ hf
set_option maxRecDepth 100000 in
set_option maxHeartbeats 4000000 in
theorem w_X7_tell_19 {K : Kx} {E : Ex} (h : Ok shM K E RX7 cX7_tell 7 rm_X7_tell) {r : St} (hr : RetV shM K E cX7_tell 7 r) {k8 : St → Int32 → Int32 → Int32 → Int32 → Option (St)} (hk8 : ∀ (u : St) (l1 l2 l3 l4 : Int32), k8 u l1 l2 l3 l4 = some r → Vd shM K E 7 8 [some (.inr 0), some (.inl l1), some (.inl l2), some (.inl l3), some (.inl l4), none, none] [] u) : ∀ (n : Nat) (u : St) (l1 l2 l3 l4 l5 : Int32), f_X7_tell_19 k8 n u l1 l2 l3 l4 l5 = some r → Vd shM K E 7 19 [some (.inr 0), some (.inl l1), some (.inl l2), some (.inl l3), some (.inl l4), some (.inl l5), none] [] u := by
  intro n
  induction n with
  | zero => intro u l1 l2 l3 l4 l5 hf; cases hf
  | succ n ih =>
    intro u l1 l2 l3 l4 l5 hf
    refine r_iload (pc := 19) h dX7_tell_19 rfl ?_
    refine r_aload_n (pc := 21) h dX7_tell_21 rfl ?_
    refine gf_X7_40 (pc := 22) h dX7_tell_22 ?_
    refine r_iload_n (pc := 25) h dX7_tell_25 rfl ?_
    refine p_g hf (fun hi13 hf => ?_)
    refine r_iald (pc := 26) (k := 11) (v := (u 11 l1.toNatClampNeg)) h hshM_11 hi13 rfl dX7_tell_26 ?_
    refine p_ite hf (fun hc14 hf => ?_) (fun hc14 hf => ?_)
    · refine r_icmp_ge (pc := 27) (tgt := 76) h dX7_tell_27 (by decide) (fun _ => ?_) (fun q => absurd hc14 q)
      refine r_goto (pc := 76) (tgt := 8) h dX7_tell_76 (by decide) ?_
      refine r_le [some (.inr 0), some (.inl l1), some (.inl l2), some (.inl l3), some (.inl l4), none, none] ⟨rfl, ⟨rfl, ⟨rfl, ⟨rfl, ⟨rfl, trivial⟩⟩⟩⟩⟩ ?_
      exact hk8 _ _ _ _ _ hf
    · refine r_icmp_ge (pc := 27) (tgt := 76) h dX7_tell_27 (by decide) (fun q => absurd q hc14) (fun _ => ?_)
      refine r_aload_n (pc := 30) h dX7_tell_30 rfl ?_
      refine gf_X7_133 (pc := 31) (v := (u 0 26)) h rfl dX7_tell_31 ?_
      refine r_iload (pc := 34) h dX7_tell_34 rfl ?_
      refine p_b hf (fun q15 e16 hf => ?_)
      refine r_cSi (pc := 36) (st := []) h [.inl (u 0 26), .inl l5] cs_X7_has wm_X7_119 (c_X7_has e16) ⟨rfl, rfl, Nat.le_of_ble_eq_true rfl, Nat.le_of_ble_eq_true rfl⟩ (Nat.le_of_ble_eq_true rfl) dX7_tell_36 ?_
      refine p_ite hf (fun hc17 hf => ?_) (fun hc17 hf => ?_)
      · refine r_if_ne (pc := 39) (tgt := 70) h dX7_tell_39 (by decide) (fun q => absurd hc17 q) (fun _ => ?_)
        refine r_aload_n (pc := 42) h dX7_tell_42 rfl ?_
        refine r_iload_n (pc := 43) h dX7_tell_43 rfl ?_
        refine r_iload_n (pc := 44) h dX7_tell_44 rfl ?_
        refine r_iload_n (pc := 45) h dX7_tell_45 rfl ?_
        refine r_iload (pc := 46) h dX7_tell_46 rfl ?_
        refine p_b hf (fun q18 e19 hf => ?_)
        refine r_cVi (pc := 48) (k := 0) (st := []) h [.inl l1, .inl l2, .inl l3, .inl l5] cv_X7_mustOff wm_X7_139 (c_X7_mustOff e19) ⟨rfl, rfl, Nat.le_of_ble_eq_true rfl, Nat.le_of_ble_eq_true rfl⟩ hshM_0 rfl rfl (Nat.le_of_ble_eq_true rfl) dX7_tell_48 ?_
        refine p_ite hf (fun hc20 hf => ?_) (fun hc20 hf => ?_)
        · refine r_if_eq (pc := 51) (tgt := 70) h dX7_tell_51 (by decide) (fun _ => ?_) (fun q => absurd hc20 q)
          refine r_iinc (pc := 70) (v := (l5 + 1)) (L' := [some (.inr 0), some (.inl l1), some (.inl l2), some (.inl l3), some (.inl l4), some (.inl (l5 + 1)), none]) h dX7_tell_70 rfl rfl (by decide) rfl ?_
          refine r_goto (pc := 73) (tgt := 19) h dX7_tell_73 (by decide) ?_
          exact ih _ _ _ _ _ _ hf
        · refine r_if_eq (pc := 51) (tgt := 70) h dX7_tell_51 (by decide) (fun q => absurd q hc20) (fun _ => ?_)
          refine r_aload_n (pc := 54) h dX7_tell_54 rfl ?_
          refine r_dup (pc := 55) h dX7_tell_55 ?_
          refine gf_X7_133 (pc := 56) (v := (u 0 26)) h rfl dX7_tell_56 ?_
          refine r_iconst (pc := 59) (v := 1) h dX7_tell_59 (by decide) ?_
          refine r_iload (pc := 60) h dX7_tell_60 rfl ?_
          refine r_ishl (pc := 62) h dX7_tell_62 ?_
          refine r_ior (pc := 63) h dX7_tell_63 ?_
          refine pf_X7_133 (pc := 64) h dX7_tell_64 ?_
          refine r_iconst (pc := 67) (v := 1) h dX7_tell_67 (by decide) ?_
          refine r_istore (pc := 68) (L' := [some (.inr 0), some (.inl l1), some (.inl l2), some (.inl l3), some (.inl 1), some (.inl l5), none]) h dX7_tell_68 (by decide) rfl ?_
          refine r_iinc (pc := 70) (v := (l5 + 1)) (L' := [some (.inr 0), some (.inl l1), some (.inl l2), some (.inl l3), some (.inl 1), some (.inl (l5 + 1)), none]) h dX7_tell_70 rfl rfl (by decide) rfl ?_
          refine r_goto (pc := 73) (tgt := 19) h dX7_tell_73 (by decide) ?_
          exact ih _ _ _ _ _ _ hf
      · refine r_if_ne (pc := 39) (tgt := 70) h dX7_tell_39 (by decide) (fun _ => ?_) (fun q => absurd q hc17)
        refine r_iinc (pc := 70) (v := (l5 + 1)) (L' := [some (.inr 0), some (.inl l1), some (.inl l2), some (.inl l3), some (.inl l4), some (.inl (l5 + 1)), none]) h dX7_tell_70 rfl rfl (by decide) rfl ?_
        refine r_goto (pc := 73) (tgt := 19) h dX7_tell_73 (by decide) ?_
        exact ih _ _ _ _ _ _ hf
set_option maxRecDepth 100000 in
set_option maxHeartbeats 4000000 in
theorem w_X7_tell_8 {K : Kx} {E : Ex} (h : Ok shM K E RX7 cX7_tell 7 rm_X7_tell) {r : St} (hr : RetV shM K E cX7_tell 7 r) : ∀ (n : Nat) (u : St) (l1 l2 l3 l4 : Int32), f_X7_tell_8 n u l1 l2 l3 l4 = some r → Vd shM K E 7 8 [some (.inr 0), some (.inl l1), some (.inl l2), some (.inl l3), some (.inl l4), none, none] [] u := by
  intro n
  induction n with
  | zero => intro u l1 l2 l3 l4 hf; cases hf
  | succ n ih =>
    intro u l1 l2 l3 l4 hf
    refine r_iload (pc := 8) h dX7_tell_8 rfl ?_
    refine p_ite hf (fun hc21 hf => ?_) (fun hc21 hf => ?_)
    · refine r_if_eq (pc := 10) (tgt := 79) h dX7_tell_10 (by decide) (fun _ => ?_) (fun q => absurd hc21 q)
      refine r_aload_n (pc := 79) h dX7_tell_79 rfl ?_
      refine r_iconst (pc := 80) (v := 0) h dX7_tell_80 (by decide) ?_
      refine pf_X7_143 (pc := 81) h dX7_tell_81 ?_
      refine r_iconst (pc := 84) (v := 0) h dX7_tell_84 (by decide) ?_
      refine r_istore (pc := 85) (L' := [some (.inr 0), some (.inl l1), some (.inl l2), some (.inl l3), some (.inl l4), some (.inl 0), none]) h dX7_tell_85 (by decide) rfl ?_
      refine r_le [some (.inr 0), some (.inl l1), some (.inl l2), some (.inl l3), none, some (.inl 0), none] ⟨rfl, ⟨rfl, ⟨rfl, ⟨rfl, ⟨rfl, trivial⟩⟩⟩⟩⟩ ?_
      exact w_X7_tell_87 h hr FU _ _ _ _ _ hf
    · refine r_if_eq (pc := 10) (tgt := 79) h dX7_tell_10 (by decide) (fun q => absurd q hc21) (fun _ => ?_)
      refine r_iconst (pc := 13) (v := 0) h dX7_tell_13 (by decide) ?_
      refine r_istore (pc := 14) (L' := [some (.inr 0), some (.inl l1), some (.inl l2), some (.inl l3), some (.inl 0), none, none]) h dX7_tell_14 (by decide) rfl ?_
      refine r_iconst (pc := 16) (v := 0) h dX7_tell_16 (by decide) ?_
      refine r_istore (pc := 17) (L' := [some (.inr 0), some (.inl l1), some (.inl l2), some (.inl l3), some (.inl 0), some (.inl 0), none]) h dX7_tell_17 (by decide) rfl ?_
      exact w_X7_tell_19 h hr (fun u9 x0 x1 x2 x3 e9 => ih u9 x0 x1 x2 x3 e9) FU _ _ _ _ _ _ hf
set_option maxRecDepth 100000 in
set_option maxHeartbeats 4000000 in
theorem w_X7_tell_0 {K : Kx} {E : Ex} (h : Ok shM K E RX7 cX7_tell 7 rm_X7_tell) {r : St} (hr : RetV shM K E cX7_tell 7 r) (u : St) (l1 l2 l3 : Int32) (hf : f_X7_tell u l1 l2 l3 = some r) : Vd shM K E 7 0 [some (.inr 0), some (.inl l1), some (.inl l2), some (.inl l3), none, none, none] [] u := by
  refine r_aload_n (pc := 0) h dX7_tell_0 rfl ?_
  refine r_iconst (pc := 1) (v := 0) h dX7_tell_1 (by decide) ?_
  refine pf_X7_133 (pc := 2) h dX7_tell_2 ?_
  refine r_iconst (pc := 5) (v := 1) h dX7_tell_5 (by decide) ?_
  refine r_istore (pc := 6) (L' := [some (.inr 0), some (.inl l1), some (.inl l2), some (.inl l3), some (.inl 1), none, none]) h dX7_tell_6 (by decide) rfl ?_
  exact w_X7_tell_8 h hr FU _ _ _ _ _ hf
theorem c_X7_tell {u : St} {l1 l2 l3 : Int32} {r : St} (hf : f_X7_tell u l1 l2 l3 = some r) : CtV shM yX7_tell cX7_tell 7 none rm_X7_tell [.inr 0, .inl l1, .inl l2, .inl l3] u r := ct_V (by decide +kernel) (Nat.le_of_ble_eq_true rfl) (fun K E h hr => w_X7_tell_0 h hr _ _ _ _ hf)
set_option maxRecDepth 100000 in
set_option maxHeartbeats 4000000 in
theorem w_X7_countOf_4 {K : Kx} {E : Ex} (h : Ok shM K E RX7 cX7_countOf 3 rm_X7_countOf) {r : Int32} {u : St} (hr : RetI shM K E cX7_countOf 3 r u) : ∀ (n : Nat) (l0 l1 l2 : Int32), f_X7_countOf_4 u n l0 l1 l2 = some r → Vd shM K E 3 4 [some (.inl l0), some (.inl l1), some (.inl l2)] [] u := by
  intro n
  induction n with
  | zero => intro l0 l1 l2 hf; cases hf
  | succ n ih =>
    intro l0 l1 l2 hf
    refine r_iload_n (pc := 4) h dX7_countOf_4 rfl ?_
    refine r_bipush (pc := 5) (v := 12) h dX7_countOf_5 (by decide) ?_
    refine p_ite hf (fun hc1 hf => ?_) (fun hc1 hf => ?_)
    · refine r_icmp_ge (pc := 7) (tgt := 24) h dX7_countOf_7 (by decide) (fun _ => ?_) (fun q => absurd hc1 q)
      refine r_iload_n (pc := 24) h dX7_countOf_24 rfl ?_
      have hf := Option.some.inj hf
      subst hf
      exact hr 25 _ dX7_countOf_25
    · refine r_icmp_ge (pc := 7) (tgt := 24) h dX7_countOf_7 (by decide) (fun q => absurd q hc1) (fun _ => ?_)
      refine r_iload_n (pc := 10) h dX7_countOf_10 rfl ?_
      refine r_iload_n (pc := 11) h dX7_countOf_11 rfl ?_
      refine r_iload_n (pc := 12) h dX7_countOf_12 rfl ?_
      refine r_ishr (pc := 13) h dX7_countOf_13 ?_
      refine r_iconst (pc := 14) (v := 1) h dX7_countOf_14 (by decide) ?_
      refine r_iand (pc := 15) h dX7_countOf_15 ?_
      refine r_iadd (pc := 16) h dX7_countOf_16 ?_
      refine r_istore_n (pc := 17) (L' := [some (.inl l0), some (.inl (l1 + ((l0 >>> (l2 &&& 31)) &&& 1))), some (.inl l2)]) h dX7_countOf_17 (by decide) rfl ?_
      refine r_iinc (pc := 18) (v := (l2 + 1)) (L' := [some (.inl l0), some (.inl (l1 + ((l0 >>> (l2 &&& 31)) &&& 1))), some (.inl (l2 + 1))]) h dX7_countOf_18 rfl rfl (by decide) rfl ?_
      refine r_goto (pc := 21) (tgt := 4) h dX7_countOf_21 (by decide) ?_
      exact ih _ _ _ hf
set_option maxRecDepth 100000 in
set_option maxHeartbeats 4000000 in
theorem w_X7_countOf_0 {K : Kx} {E : Ex} (h : Ok shM K E RX7 cX7_countOf 3 rm_X7_countOf) {r : Int32} {u : St} (hr : RetI shM K E cX7_countOf 3 r u) (l0 : Int32) (hf : f_X7_countOf u l0 = some r) : Vd shM K E 3 0 [some (.inl l0), none, none] [] u := by
  refine r_iconst (pc := 0) (v := 0) h dX7_countOf_0 (by decide) ?_
  refine r_istore_n (pc := 1) (L' := [some (.inl l0), some (.inl 0), none]) h dX7_countOf_1 (by decide) rfl ?_
  refine r_iconst (pc := 2) (v := 0) h dX7_countOf_2 (by decide) ?_
  refine r_istore_n (pc := 3) (L' := [some (.inl l0), some (.inl 0), some (.inl 0)]) h dX7_countOf_3 (by decide) rfl ?_
  exact w_X7_countOf_4 h hr FU _ _ _ hf
theorem c_X7_countOf {u : St} {l0 : Int32} {r : Int32} (hf : f_X7_countOf u l0 = some r) : CtI shM yX7_countOf cX7_countOf 3 (some .int) rm_X7_countOf [.inl l0] u r u := ct_I (by decide +kernel) (Nat.le_of_ble_eq_true rfl) (fun K E h hr => w_X7_countOf_0 h hr _ hf)
set_option maxRecDepth 100000 in
set_option maxHeartbeats 4000000 in
theorem w_X7_told_0 {K : Kx} {E : Ex} (h : Ok shM K E RX7 cX7_told 5 rm_X7_told) {r : Int32 × St} (hr : RetI shM K E cX7_told 5 r.1 r.2) (u : St) (l1 l2 l3 l4 : Int32) (hf : f_X7_told u l1 l2 l3 l4 = some r) : Vd shM K E 5 0 [some (.inr 0), some (.inl l1), some (.inl l2), some (.inl l3), some (.inl l4)] [] u := by
  refine r_aload_n (pc := 0) h dX7_told_0 rfl ?_
  refine r_iload_n (pc := 1) h dX7_told_1 rfl ?_
  refine r_iload_n (pc := 2) h dX7_told_2 rfl ?_
  refine r_iload_n (pc := 3) h dX7_told_3 rfl ?_
  refine p_b hf (fun q1 e2 hf => ?_)
  refine r_cVi (pc := 4) (k := 0) (st := []) h [.inl l1, .inl l2, .inl l3] cv_X7_isChange wm_X7_127 (c_X7_isChange e2) ⟨rfl, rfl, Nat.le_of_ble_eq_true rfl, Nat.le_of_ble_eq_true rfl⟩ hshM_0 rfl rfl (Nat.le_of_ble_eq_true rfl) dX7_told_4 ?_
  refine p_ite hf (fun hc3 hf => ?_) (fun hc3 hf => ?_)
  · refine r_if_eq (pc := 7) (tgt := 20) h dX7_told_7 (by decide) (fun _ => ?_) (fun q => absurd hc3 q)
    refine r_aload_n (pc := 20) h dX7_told_20 rfl ?_
    refine r_iconst (pc := 21) (v := 1) h dX7_told_21 (by decide) ?_
    refine p_b hf (fun q4 e5 hf => ?_)
    refine r_cVi (pc := 22) (k := 0) (st := []) h [.inl 1] cv_X7_finding wm_X7_104 (c_X7_finding e5) ⟨rfl, rfl, Nat.le_of_ble_eq_true rfl, Nat.le_of_ble_eq_true rfl⟩ hshM_0 rfl rfl (Nat.le_of_ble_eq_true rfl) dX7_told_22 ?_
    have hf := Option.some.inj hf
    subst hf
    exact hr 25 _ dX7_told_25
  · refine r_if_eq (pc := 7) (tgt := 20) h dX7_told_7 (by decide) (fun q => absurd q hc3) (fun _ => ?_)
    refine r_iload (pc := 10) h dX7_told_10 rfl ?_
    refine r_iconst (pc := 12) (v := 0) h dX7_told_12 (by decide) ?_
    refine r_iconst (pc := 13) (v := 3) h dX7_told_13 (by decide) ?_
    refine p_b hf (fun q6 e7 hf => ?_)
    refine r_cSi (pc := 14) (st := []) h [.inl l4, .inl 0, .inl 3] cs_X7_isIn wm_X7_100 (c_X7_isIn e7) ⟨rfl, rfl, Nat.le_of_ble_eq_true rfl, Nat.le_of_ble_eq_true rfl⟩ (Nat.le_of_ble_eq_true rfl) dX7_told_14 ?_
    refine p_ite hf (fun hc8 hf => ?_) (fun hc8 hf => ?_)
    · refine r_if_ne (pc := 17) (tgt := 26) h dX7_told_17 (by decide) (fun q => absurd hc8 q) (fun _ => ?_)
      refine r_aload_n (pc := 20) h dX7_told_20 rfl ?_
      refine r_iconst (pc := 21) (v := 1) h dX7_told_21 (by decide) ?_
      refine p_b hf (fun q23 e24 hf => ?_)
      refine r_cVi (pc := 22) (k := 0) (st := []) h [.inl 1] cv_X7_finding wm_X7_104 (c_X7_finding e24) ⟨rfl, rfl, Nat.le_of_ble_eq_true rfl, Nat.le_of_ble_eq_true rfl⟩ hshM_0 rfl rfl (Nat.le_of_ble_eq_true rfl) dX7_told_22 ?_
      have hf := Option.some.inj hf
      subst hf
      exact hr 25 _ dX7_told_25
    · refine r_if_ne (pc := 17) (tgt := 26) h dX7_told_17 (by decide) (fun _ => ?_) (fun q => absurd q hc8)
      refine r_aload_n (pc := 26) h dX7_told_26 rfl ?_
      refine r_iload_n (pc := 27) h dX7_told_27 rfl ?_
      refine r_iload_n (pc := 28) h dX7_told_28 rfl ?_
      refine r_iload_n (pc := 29) h dX7_told_29 rfl ?_
      refine p_b hf (fun q9 e10 hf => ?_)
      refine r_cVi (pc := 30) (k := 0) (st := []) h [.inl l1, .inl l2, .inl l3] cv_X7_isAllowed wm_X7_130 (c_X7_isAllowed e10) ⟨rfl, rfl, Nat.le_of_ble_eq_true rfl, Nat.le_of_ble_eq_true rfl⟩ hshM_0 rfl rfl (Nat.le_of_ble_eq_true rfl) dX7_told_30 ?_
      refine p_ite hf (fun hc11 hf => ?_) (fun hc11 hf => ?_)
      · refine r_if_ne (pc := 33) (tgt := 42) h dX7_told_33 (by decide) (fun q => absurd hc11 q) (fun _ => ?_)
        refine r_aload_n (pc := 36) h dX7_told_36 rfl ?_
        refine r_iconst (pc := 37) (v := 3) h dX7_told_37 (by decide) ?_
        refine p_b hf (fun q21 e22 hf => ?_)
        refine r_cVi (pc := 38) (k := 0) (st := []) h [.inl 3] cv_X7_finding wm_X7_104 (c_X7_finding e22) ⟨rfl, rfl, Nat.le_of_ble_eq_true rfl, Nat.le_of_ble_eq_true rfl⟩ hshM_0 rfl rfl (Nat.le_of_ble_eq_true rfl) dX7_told_38 ?_
        have hf := Option.some.inj hf
        subst hf
        exact hr 41 _ dX7_told_41
      · refine r_if_ne (pc := 33) (tgt := 42) h dX7_told_33 (by decide) (fun _ => ?_) (fun q => absurd q hc11)
        refine r_aload_n (pc := 42) h dX7_told_42 rfl ?_
        refine r_iload_n (pc := 43) h dX7_told_43 rfl ?_
        refine r_iload_n (pc := 44) h dX7_told_44 rfl ?_
        refine r_iload_n (pc := 45) h dX7_told_45 rfl ?_
        refine p_b hf (fun q12 e13 hf => ?_)
        refine r_cVv (pc := 46) (k := 0) (st := []) h [.inl l1, .inl l2, .inl l3] cv_X7_tell wm_X7_146 (c_X7_tell e13) ⟨rfl, rfl, Nat.le_of_ble_eq_true rfl, Nat.le_of_ble_eq_true rfl⟩ hshM_0 rfl rfl (Nat.le_of_ble_eq_true rfl) dX7_told_46 ?_
        refine r_iload (pc := 49) h dX7_told_49 rfl ?_
        refine p_ite hf (fun hc14 hf => ?_) (fun hc14 hf => ?_)
        · refine r_if_ne (pc := 51) (tgt := 64) h dX7_told_51 (by decide) (fun q => absurd hc14 q) (fun _ => ?_)
          refine r_aload_n (pc := 54) h dX7_told_54 rfl ?_
          refine gf_X7_133 (pc := 55) (v := (q12 0 26)) h rfl dX7_told_55 ?_
          refine p_b hf (fun q19 e20 hf => ?_)
          refine r_cSi (pc := 58) (st := []) h [.inl (q12 0 26)] cs_X7_countOf wm_X7_150 (c_X7_countOf e20) ⟨rfl, rfl, Nat.le_of_ble_eq_true rfl, Nat.le_of_ble_eq_true rfl⟩ (Nat.le_of_ble_eq_true rfl) dX7_told_58 ?_
          refine r_goto (pc := 61) (tgt := 97) h dX7_told_61 (by decide) ?_
          have hf := Option.some.inj hf
          subst hf
          exact hr 97 _ dX7_told_97
        · refine r_if_ne (pc := 51) (tgt := 64) h dX7_told_51 (by decide) (fun _ => ?_) (fun q => absurd q hc14)
          refine r_iload (pc := 64) h dX7_told_64 rfl ?_
          refine r_iconst (pc := 66) (v := 1) h dX7_told_66 (by decide) ?_
          refine p_ite hf (fun hc15 hf => ?_) (fun hc15 hf => ?_)
          · refine r_icmp_ne (pc := 67) (tgt := 80) h dX7_told_67 (by decide) (fun q => absurd hc15 q) (fun _ => ?_)
            refine r_aload_n (pc := 70) h dX7_told_70 rfl ?_
            refine gf_X7_143 (pc := 71) (v := (q12 0 27)) h rfl dX7_told_71 ?_
            refine p_b hf (fun q17 e18 hf => ?_)
            refine r_cSi (pc := 74) (st := []) h [.inl (q12 0 27)] cs_X7_countOf wm_X7_150 (c_X7_countOf e18) ⟨rfl, rfl, Nat.le_of_ble_eq_true rfl, Nat.le_of_ble_eq_true rfl⟩ (Nat.le_of_ble_eq_true rfl) dX7_told_74 ?_
            refine r_goto (pc := 77) (tgt := 97) h dX7_told_77 (by decide) ?_
            have hf := Option.some.inj hf
            subst hf
            exact hr 97 _ dX7_told_97
          · refine r_icmp_ne (pc := 67) (tgt := 80) h dX7_told_67 (by decide) (fun _ => ?_) (fun q => absurd q hc15)
            refine r_iload (pc := 80) h dX7_told_80 rfl ?_
            refine r_iconst (pc := 82) (v := 2) h dX7_told_82 (by decide) ?_
            refine p_ite hf (fun hc16 hf => ?_) (fun hc16 hf => ?_)
            · refine r_icmp_ne (pc := 83) (tgt := 93) h dX7_told_83 (by decide) (fun q => absurd hc16 q) (fun _ => ?_)
              refine r_aload_n (pc := 86) h dX7_told_86 rfl ?_
              refine gf_X7_133 (pc := 87) (v := (q12 0 26)) h rfl dX7_told_87 ?_
              refine r_goto (pc := 90) (tgt := 97) h dX7_told_90 (by decide) ?_
              have hf := Option.some.inj hf
              subst hf
              exact hr 97 _ dX7_told_97
            · refine r_icmp_ne (pc := 83) (tgt := 93) h dX7_told_83 (by decide) (fun _ => ?_) (fun q => absurd q hc16)
              refine r_aload_n (pc := 93) h dX7_told_93 rfl ?_
              refine gf_X7_143 (pc := 94) (v := (q12 0 27)) h rfl dX7_told_94 ?_
              have hf := Option.some.inj hf
              subst hf
              exact hr 97 _ dX7_told_97
theorem c_X7_told {u : St} {l1 l2 l3 l4 : Int32} {r : Int32 × St} (hf : f_X7_told u l1 l2 l3 l4 = some r) : CtI shM yX7_told cX7_told 5 (some .int) rm_X7_told [.inr 0, .inl l1, .inl l2, .inl l3, .inl l4] u r.1 r.2 := ct_I (by decide +kernel) (Nat.le_of_ble_eq_true rfl) (fun K E h hr => w_X7_told_0 h hr _ _ _ _ _ hf)
