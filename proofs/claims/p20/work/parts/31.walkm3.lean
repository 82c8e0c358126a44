set_option maxRecDepth 100000 in
set_option maxHeartbeats 4000000 in
theorem w_X7_finds_126 {K : Kx} {E : Ex} (h : Ok shM K E RX7 cX7_finds 5 rm_X7_finds) {r : Int32 × St} (hr : RetZ shM K E cX7_finds 5 r.1 r.2) : ∀ (n : Nat) (u : St) (l4 : Int32), f_X7_finds_126 n u l4 = some r → Vd shM K E 5 126 [some (.inr 0), none, none, none, some (.inl l4)] [] u := by
  intro n
  induction n with
  | zero => intro u l4 hf; cases hf
  | succ n ih =>
    intro u l4 hf
    refine r_iload (pc := 126) h dX7_finds_126 rfl ?_
    refine p_ite hf (fun hc1 hf => ?_) (fun hc1 hf => ?_)
    · refine r_if_lt (pc := 128) (tgt := 156) h dX7_finds_128 (by decide) (fun _ => ?_) (fun q => absurd hc1 q)
      refine r_iconst (pc := 156) (v := 1) h dX7_finds_156 (by decide) ?_
      have hf := Option.some.inj hf
      subst hf
      exact hr 157 _ dX7_finds_157 z_1
    · refine r_if_lt (pc := 128) (tgt := 156) h dX7_finds_128 (by decide) (fun q => absurd q hc1) (fun _ => ?_)
      refine r_aload_n (pc := 131) h dX7_finds_131 rfl ?_
      refine gf_X7_80 (pc := 132) h dX7_finds_132 ?_
      refine r_aload_n (pc := 135) h dX7_finds_135 rfl ?_
      refine gf_X7_90 (pc := 136) h dX7_finds_136 ?_
      refine r_iload (pc := 139) h dX7_finds_139 rfl ?_
      refine p_g hf (fun hi2 hf => ?_)
      refine r_iald (pc := 141) (k := 26) (v := (u 26 l4.toNatClampNeg)) h hshM_26 hi2 rfl dX7_finds_141 ?_
      refine r_aload_n (pc := 142) h dX7_finds_142 rfl ?_
      refine gf_X7_87 (pc := 143) h dX7_finds_143 ?_
      refine r_iload (pc := 146) h dX7_finds_146 rfl ?_
      refine r_iald (pc := 148) (k := 25) (v := (u 25 l4.toNatClampNeg)) h hshM_25 hi2 rfl dX7_finds_148 ?_
      refine p_g hf (fun hi3 hf => ?_)
      refine r_iast (pc := 149) (k := 23) h hshM_23 hi3 dX7_finds_149 ?_
      refine r_iinc (pc := 150) (v := (l4 + (-1))) (L' := [some (.inr 0), none, none, none, some (.inl (l4 + (-1)))]) h dX7_finds_150 rfl rfl (by decide) rfl ?_
      refine r_goto (pc := 153) (tgt := 126) h dX7_finds_153 (by decide) ?_
      exact ih _ _ hf
set_option maxRecDepth 100000 in
set_option maxHeartbeats 4000000 in
theorem w_X7_finds_39 {K : Kx} {E : Ex} (h : Ok shM K E RX7 cX7_finds 5 rm_X7_finds) {r : Int32 × St} (hr : RetZ shM K E cX7_finds 5 r.1 r.2) : ∀ (n : Nat) (u : St) (l2 : Int32), f_X7_finds_39 n u l2 = some r → Vd shM K E 5 39 [some (.inr 0), none, some (.inl l2), none, none] [] u := by
  intro n
  induction n with
  | zero => intro u l2 hf; cases hf
  | succ n ih =>
    intro u l2 hf
    refine r_iload_n (pc := 39) h dX7_finds_39 rfl ?_
    refine p_ite hf (fun hc4 hf => ?_) (fun hc4 hf => ?_)
    · refine r_if_lt (pc := 40) (tgt := 187) h dX7_finds_40 (by decide) (fun _ => ?_) (fun q => absurd hc4 q)
      refine r_iconst (pc := 187) (v := 0) h dX7_finds_187 (by decide) ?_
      have hf := Option.some.inj hf
      subst hf
      exact hr 188 _ dX7_finds_188 z_0
    · refine r_if_lt (pc := 40) (tgt := 187) h dX7_finds_40 (by decide) (fun q => absurd q hc4) (fun _ => ?_)
      refine r_aload_n (pc := 43) h dX7_finds_43 rfl ?_
      refine gf_X7_90 (pc := 44) h dX7_finds_44 ?_
      refine r_iload_n (pc := 47) h dX7_finds_47 rfl ?_
      refine r_dup2 (pc := 48) h dX7_finds_48 ?_
      refine p_g hf (fun hi5 hf => ?_)
      refine r_iald (pc := 49) (k := 26) (v := (u 26 l2.toNatClampNeg)) h hshM_26 hi5 rfl dX7_finds_49 ?_
      refine r_iconst (pc := 50) (v := 1) h dX7_finds_50 (by decide) ?_
      refine r_iadd (pc := 51) h dX7_finds_51 ?_
      refine r_iast (pc := 52) (k := 26) h hshM_26 hi5 dX7_finds_52 ?_
      refine r_aload_n (pc := 53) h dX7_finds_53 rfl ?_
      refine gf_X7_90 (pc := 54) h dX7_finds_54 ?_
      refine r_iload_n (pc := 57) h dX7_finds_57 rfl ?_
      refine r_iald (pc := 58) (k := 26) (v := (upd (u 26) l2.toNatClampNeg ((u 26 l2.toNatClampNeg) + 1) l2.toNatClampNeg)) h hshM_26 hi5 rfl dX7_finds_58 ?_
      refine r_istore_n (pc := 59) (L' := [some (.inr 0), none, some (.inl l2), some (.inl (upd (u 26) l2.toNatClampNeg ((u 26 l2.toNatClampNeg) + 1) l2.toNatClampNeg)), none]) h dX7_finds_59 (by decide) rfl ?_
      refine r_iload_n (pc := 60) h dX7_finds_60 rfl ?_
      refine r_aload_n (pc := 61) h dX7_finds_61 rfl ?_
      refine gf_X7_169 (pc := 62) (v := (u 0 30)) h rfl dX7_finds_62 ?_
      refine p_ite hf (fun hc6 hf => ?_) (fun hc6 hf => ?_)
      · refine r_icmp_ne (pc := 65) (tgt := 74) h dX7_finds_65 (by decide) (fun q => absurd hc6 q) (fun _ => ?_)
        refine r_iinc (pc := 68) (v := (l2 + (-1))) (L' := [some (.inr 0), none, some (.inl (l2 + (-1))), some (.inl (upd (u 26) l2.toNatClampNeg ((u 26 l2.toNatClampNeg) + 1) l2.toNatClampNeg)), none]) h dX7_finds_68 rfl rfl (by decide) rfl ?_
        refine r_goto (pc := 71) (tgt := 184) h dX7_finds_71 (by decide) ?_
        refine r_goto (pc := 184) (tgt := 39) h dX7_finds_184 (by decide) ?_
        refine r_le [some (.inr 0), none, some (.inl (l2 + (-1))), none, none] ⟨rfl, ⟨rfl, trivial⟩⟩ ?_
        exact ih _ _ hf
      · refine r_icmp_ne (pc := 65) (tgt := 74) h dX7_finds_65 (by decide) (fun _ => ?_) (fun q => absurd q hc6)
        refine r_aload_n (pc := 74) h dX7_finds_74 rfl ?_
        refine gf_X7_83 (pc := 75) h dX7_finds_75 ?_
        refine r_iload_n (pc := 78) h dX7_finds_78 rfl ?_
        refine p_g hf (fun hi7 hf => ?_)
        refine r_zald (pc := 79) (k := 24) (v := (u 24 (upd (u 26) l2.toNatClampNeg ((u 26 l2.toNatClampNeg) + 1) l2.toNatClampNeg).toNatClampNeg)) h hshM_24 hi7 rfl dX7_finds_79 ?_
        refine p_ite hf (fun hc8 hf => ?_) (fun hc8 hf => ?_)
        · refine r_if_ne (pc := 80) (tgt := 184) h dX7_finds_80 (by decide) (fun q => absurd hc8 q) (fun _ => ?_)
          refine r_aload_n (pc := 83) h dX7_finds_83 rfl ?_
          refine r_aload_n (pc := 84) h dX7_finds_84 rfl ?_
          refine gf_X7_77 (pc := 85) h dX7_finds_85 ?_
          refine r_aload_n (pc := 88) h dX7_finds_88 rfl ?_
          refine gf_X7_87 (pc := 89) h dX7_finds_89 ?_
          refine r_iload_n (pc := 92) h dX7_finds_92 rfl ?_
          refine r_iald (pc := 93) (k := 25) (v := (u 25 l2.toNatClampNeg)) h hshM_25 hi5 rfl dX7_finds_93 ?_
          refine p_g hf (fun hi9 hf => ?_)
          refine r_iald (pc := 94) (k := 22) (v := (u 22 (u 25 l2.toNatClampNeg).toNatClampNeg)) h hshM_22 hi9 rfl dX7_finds_94 ?_
          refine r_aload_n (pc := 95) h dX7_finds_95 rfl ?_
          refine gf_X7_77 (pc := 96) h dX7_finds_96 ?_
          refine r_iload_n (pc := 99) h dX7_finds_99 rfl ?_
          refine r_iald (pc := 100) (k := 22) (v := (u 22 (upd (u 26) l2.toNatClampNeg ((u 26 l2.toNatClampNeg) + 1) l2.toNatClampNeg).toNatClampNeg)) h hshM_22 hi7 rfl dX7_finds_100 ?_
          refine p_b hf (fun q10 e11 hf => ?_)
          refine r_cVi (pc := 101) (k := 0) (st := []) h [.inl (u 22 (u 25 l2.toNatClampNeg).toNatClampNeg), .inl (u 22 (upd (u 26) l2.toNatClampNeg ((u 26 l2.toNatClampNeg) + 1) l2.toNatClampNeg).toNatClampNeg)] cv_X7_canGo wm_X7_172 (c_X7_canGo e11) ⟨rfl, rfl, Nat.le_of_ble_eq_true rfl, Nat.le_of_ble_eq_true rfl⟩ hshM_0 rfl rfl (Nat.le_of_ble_eq_true rfl) dX7_finds_101 ?_
          refine p_ite hf (fun hc12 hf => ?_) (fun hc12 hf => ?_)
          · refine r_if_eq (pc := 104) (tgt := 184) h dX7_finds_104 (by decide) (fun _ => ?_) (fun q => absurd hc12 q)
            refine r_goto (pc := 184) (tgt := 39) h dX7_finds_184 (by decide) ?_
            refine r_le [some (.inr 0), none, some (.inl l2), none, none] ⟨rfl, ⟨rfl, trivial⟩⟩ ?_
            exact ih _ _ hf
          · refine r_if_eq (pc := 104) (tgt := 184) h dX7_finds_104 (by decide) (fun q => absurd q hc12) (fun _ => ?_)
            refine r_aload_n (pc := 107) h dX7_finds_107 rfl ?_
            refine gf_X7_83 (pc := 108) h dX7_finds_108 ?_
            refine r_iload_n (pc := 111) h dX7_finds_111 rfl ?_
            refine r_iconst (pc := 112) (v := 1) h dX7_finds_112 (by decide) ?_
            refine r_zast (pc := 113) (k := 24) h hshM_24 hi7 rfl dX7_finds_113 ?_
            refine r_aload_n (pc := 114) h dX7_finds_114 rfl ?_
            refine gf_X7_80 (pc := 115) h dX7_finds_115 ?_
            refine r_iload_n (pc := 118) h dX7_finds_118 rfl ?_
            refine r_iald (pc := 119) (k := 23) (v := (u 23 (upd (u 26) l2.toNatClampNeg ((u 26 l2.toNatClampNeg) + 1) l2.toNatClampNeg).toNatClampNeg)) h hshM_23 hi7 rfl dX7_finds_119 ?_
            refine p_ite hf (fun hc13 hf => ?_) (fun hc13 hf => ?_)
            · refine r_if_ge (pc := 120) (tgt := 158) h dX7_finds_120 (by decide) (fun _ => ?_) (fun q => absurd hc13 q)
              refine r_aload_n (pc := 158) h dX7_finds_158 rfl ?_
              refine gf_X7_87 (pc := 159) h dX7_finds_159 ?_
              refine r_iload_n (pc := 162) h dX7_finds_162 rfl ?_
              refine r_iconst (pc := 163) (v := 1) h dX7_finds_163 (by decide) ?_
              refine r_iadd (pc := 164) h dX7_finds_164 ?_
              refine r_aload_n (pc := 165) h dX7_finds_165 rfl ?_
              refine gf_X7_80 (pc := 166) h dX7_finds_166 ?_
              refine r_iload_n (pc := 169) h dX7_finds_169 rfl ?_
              refine r_iald (pc := 170) (k := 23) (v := (u 23 (upd (u 26) l2.toNatClampNeg ((u 26 l2.toNatClampNeg) + 1) l2.toNatClampNeg).toNatClampNeg)) h hshM_23 hi7 rfl dX7_finds_170 ?_
              refine p_g hf (fun hi14 hf => ?_)
              refine r_iast (pc := 171) (k := 25) h hshM_25 hi14 dX7_finds_171 ?_
              refine r_aload_n (pc := 172) h dX7_finds_172 rfl ?_
              refine gf_X7_90 (pc := 173) h dX7_finds_173 ?_
              refine r_iload_n (pc := 176) h dX7_finds_176 rfl ?_
              refine r_iconst (pc := 177) (v := 1) h dX7_finds_177 (by decide) ?_
              refine r_iadd (pc := 178) h dX7_finds_178 ?_
              refine r_iconst (pc := 179) (v := (-1)) h dX7_finds_179 (by decide) ?_
              refine r_iast (pc := 180) (k := 26) h hshM_26 hi14 dX7_finds_180 ?_
              refine r_iinc (pc := 181) (v := (l2 + 1)) (L' := [some (.inr 0), none, some (.inl (l2 + 1)), some (.inl (upd (u 26) l2.toNatClampNeg ((u 26 l2.toNatClampNeg) + 1) l2.toNatClampNeg)), none]) h dX7_finds_181 rfl rfl (by decide) rfl ?_
              refine r_goto (pc := 184) (tgt := 39) h dX7_finds_184 (by decide) ?_
              refine r_le [some (.inr 0), none, some (.inl (l2 + 1)), none, none] ⟨rfl, ⟨rfl, trivial⟩⟩ ?_
              exact ih _ _ hf
            · refine r_if_ge (pc := 120) (tgt := 158) h dX7_finds_120 (by decide) (fun q => absurd q hc13) (fun _ => ?_)
              refine r_iload_n (pc := 123) h dX7_finds_123 rfl ?_
              refine r_istore (pc := 124) (L' := [some (.inr 0), none, some (.inl l2), some (.inl (upd (u 26) l2.toNatClampNeg ((u 26 l2.toNatClampNeg) + 1) l2.toNatClampNeg)), some (.inl l2)]) h dX7_finds_124 (by decide) rfl ?_
              refine r_le [some (.inr 0), none, none, none, some (.inl l2)] ⟨rfl, ⟨rfl, trivial⟩⟩ ?_
              exact w_X7_finds_126 h hr FU _ _ hf
        · refine r_if_ne (pc := 80) (tgt := 184) h dX7_finds_80 (by decide) (fun _ => ?_) (fun q => absurd q hc8)
          refine r_goto (pc := 184) (tgt := 39) h dX7_finds_184 (by decide) ?_
          refine r_le [some (.inr 0), none, some (.inl l2), none, none] ⟨rfl, ⟨rfl, trivial⟩⟩ ?_
          exact ih _ _ hf
set_option maxRecDepth 100000 in
set_option maxHeartbeats 4000000 in
theorem w_X7_finds_2 {K : Kx} {E : Ex} (h : Ok shM K E RX7 cX7_finds 5 rm_X7_finds) {r : Int32 × St} (hr : RetZ shM K E cX7_finds 5 r.1 r.2) : ∀ (n : Nat) (u : St) (l1 l2 : Int32), f_X7_finds_2 n u l1 l2 = some r → Vd shM K E 5 2 [some (.inr 0), some (.inl l1), some (.inl l2), none, none] [] u := by
  intro n
  induction n with
  | zero => intro u l1 l2 hf; cases hf
  | succ n ih =>
    intro u l1 l2 hf
    refine r_iload_n (pc := 2) h dX7_finds_2 rfl ?_
    refine r_aload_n (pc := 3) h dX7_finds_3 rfl ?_
    refine gf_X7_169 (pc := 4) (v := (u 0 30)) h rfl dX7_finds_4 ?_
    refine p_ite hf (fun hc15 hf => ?_) (fun hc15 hf => ?_)
    · refine r_icmp_ge (pc := 7) (tgt := 23) h dX7_finds_7 (by decide) (fun _ => ?_) (fun q => absurd hc15 q)
      refine r_iconst (pc := 23) (v := 0) h dX7_finds_23 (by decide) ?_
      refine r_istore_n (pc := 24) (L' := [some (.inr 0), some (.inl l1), some (.inl 0), none, none]) h dX7_finds_24 (by decide) rfl ?_
      refine r_aload_n (pc := 25) h dX7_finds_25 rfl ?_
      refine gf_X7_87 (pc := 26) h dX7_finds_26 ?_
      refine r_iconst (pc := 29) (v := 0) h dX7_finds_29 (by decide) ?_
      refine r_iload_n (pc := 30) h dX7_finds_30 rfl ?_
      refine r_iast (pc := 31) (k := 25) h hshM_25 (by decide) dX7_finds_31 ?_
      refine r_aload_n (pc := 32) h dX7_finds_32 rfl ?_
      refine gf_X7_90 (pc := 33) h dX7_finds_33 ?_
      refine r_iconst (pc := 36) (v := 0) h dX7_finds_36 (by decide) ?_
      refine r_iconst (pc := 37) (v := (-1)) h dX7_finds_37 (by decide) ?_
      refine r_iast (pc := 38) (k := 26) h hshM_26 (by decide) dX7_finds_38 ?_
      refine r_le [some (.inr 0), none, some (.inl 0), none, none] ⟨rfl, ⟨rfl, trivial⟩⟩ ?_
      exact w_X7_finds_39 h hr FU _ _ hf
    · refine r_icmp_ge (pc := 7) (tgt := 23) h dX7_finds_7 (by decide) (fun q => absurd q hc15) (fun _ => ?_)
      refine r_aload_n (pc := 10) h dX7_finds_10 rfl ?_
      refine gf_X7_83 (pc := 11) h dX7_finds_11 ?_
      refine r_iload_n (pc := 14) h dX7_finds_14 rfl ?_
      refine r_iconst (pc := 15) (v := 0) h dX7_finds_15 (by decide) ?_
      refine p_g hf (fun hi16 hf => ?_)
      refine r_zast (pc := 16) (k := 24) h hshM_24 hi16 rfl dX7_finds_16 ?_
      refine r_iinc (pc := 17) (v := (l2 + 1)) (L' := [some (.inr 0), some (.inl l1), some (.inl (l2 + 1)), none, none]) h dX7_finds_17 rfl rfl (by decide) rfl ?_
      refine r_goto (pc := 20) (tgt := 2) h dX7_finds_20 (by decide) ?_
      exact ih _ _ _ hf
set_option maxRecDepth 100000 in
set_option maxHeartbeats 4000000 in
theorem w_X7_finds_0 {K : Kx} {E : Ex} (h : Ok shM K E RX7 cX7_finds 5 rm_X7_finds) {r : Int32 × St} (hr : RetZ shM K E cX7_finds 5 r.1 r.2) (u : St) (l1 : Int32) (hf : f_X7_finds u l1 = some r) : Vd shM K E 5 0 [some (.inr 0), some (.inl l1), none, none, none] [] u := by
  refine r_iconst (pc := 0) (v := 0) h dX7_finds_0 (by decide) ?_
  refine r_istore_n (pc := 1) (L' := [some (.inr 0), some (.inl l1), some (.inl 0), none, none]) h dX7_finds_1 (by decide) rfl ?_
  exact w_X7_finds_2 h hr FU _ _ _ hf
theorem c_X7_finds {u : St} {l1 : Int32} {r : Int32 × St} (hf : f_X7_finds u l1 = some r) : CtI shM yX7_finds cX7_finds 5 (some .boolean) rm_X7_finds [.inr 0, .inl l1] u r.1 r.2 := ct_Z (by decide +kernel) (Nat.le_of_ble_eq_true rfl) (fun K E h hr => w_X7_finds_0 h hr _ _ hf)
set_option maxRecDepth 100000 in
set_option maxHeartbeats 4000000 in
theorem w_X7_dressers_76 {K : Kx} {E : Ex} (h : Ok shM K E RX7 cX7_dressers 3 rm_X7_dressers) {r : Int32 × St} (hr : RetI shM K E cX7_dressers 3 r.1 r.2) : ∀ (n : Nat) (u : St) (l1 l2 : Int32), f_X7_dressers_76 n u l1 l2 = some r → Vd shM K E 3 76 [some (.inr 0), some (.inl l1), some (.inl l2)] [] u := by
  intro n
  induction n with
  | zero => intro u l1 l2 hf; cases hf
  | succ n ih =>
    intro u l1 l2 hf
    refine r_iload_n (pc := 76) h dX7_dressers_76 rfl ?_
    refine r_aload_n (pc := 77) h dX7_dressers_77 rfl ?_
    refine gf_X7_169 (pc := 78) (v := (u 0 30)) h rfl dX7_dressers_78 ?_
    refine p_ite hf (fun hc1 hf => ?_) (fun hc1 hf => ?_)
    · refine r_icmp_ge (pc := 81) (tgt := 106) h dX7_dressers_81 (by decide) (fun _ => ?_) (fun q => absurd hc1 q)
      refine r_iload_n (pc := 106) h dX7_dressers_106 rfl ?_
      have hf := Option.some.inj hf
      subst hf
      exact hr 107 _ dX7_dressers_107
    · refine r_icmp_ge (pc := 81) (tgt := 106) h dX7_dressers_81 (by decide) (fun q => absurd q hc1) (fun _ => ?_)
      refine r_iload_n (pc := 84) h dX7_dressers_84 rfl ?_
      refine r_aload_n (pc := 85) h dX7_dressers_85 rfl ?_
      refine r_iload_n (pc := 86) h dX7_dressers_86 rfl ?_
      refine p_b hf (fun q2 e3 hf => ?_)
      refine r_cVi (pc := 87) (k := 0) (st := [.inl l1]) h [.inl l2] cv_X7_finds wm_X7_175 (c_X7_finds e3) ⟨rfl, rfl, Nat.le_of_ble_eq_true rfl, Nat.le_of_ble_eq_true rfl⟩ hshM_0 rfl rfl (Nat.le_of_ble_eq_true rfl) dX7_dressers_87 ?_
      refine p_ite hf (fun hc4 hf => ?_) (fun hc4 hf => ?_)
      · refine r_if_eq (pc := 90) (tgt := 97) h dX7_dressers_90 (by decide) (fun _ => ?_) (fun q => absurd hc4 q)
        refine r_iconst (pc := 97) (v := 0) h dX7_dressers_97 (by decide) ?_
        refine r_isub (pc := 98) h dX7_dressers_98 ?_
        refine r_istore_n (pc := 99) (L' := [some (.inr 0), some (.inl (l1 - 0)), some (.inl l2)]) h dX7_dressers_99 (by decide) rfl ?_
        refine r_iinc (pc := 100) (v := (l2 + 1)) (L' := [some (.inr 0), some (.inl (l1 - 0)), some (.inl (l2 + 1))]) h dX7_dressers_100 rfl rfl (by decide) rfl ?_
        refine r_goto (pc := 103) (tgt := 76) h dX7_dressers_103 (by decide) ?_
        exact ih _ _ _ hf
      · refine r_if_eq (pc := 90) (tgt := 97) h dX7_dressers_90 (by decide) (fun q => absurd q hc4) (fun _ => ?_)
        refine r_iconst (pc := 93) (v := 1) h dX7_dressers_93 (by decide) ?_
        refine r_goto (pc := 94) (tgt := 98) h dX7_dressers_94 (by decide) ?_
        refine r_isub (pc := 98) h dX7_dressers_98 ?_
        refine r_istore_n (pc := 99) (L' := [some (.inr 0), some (.inl (l1 - 1)), some (.inl l2)]) h dX7_dressers_99 (by decide) rfl ?_
        refine r_iinc (pc := 100) (v := (l2 + 1)) (L' := [some (.inr 0), some (.inl (l1 - 1)), some (.inl (l2 + 1))]) h dX7_dressers_100 rfl rfl (by decide) rfl ?_
        refine r_goto (pc := 103) (tgt := 76) h dX7_dressers_103 (by decide) ?_
        exact ih _ _ _ hf
set_option maxRecDepth 100000 in
set_option maxHeartbeats 4000000 in
theorem w_X7_dressers_17 {K : Kx} {E : Ex} (h : Ok shM K E RX7 cX7_dressers 3 rm_X7_dressers) {r : Int32 × St} (hr : RetI shM K E cX7_dressers 3 r.1 r.2) {k7 : St → Int32 → Option (Int32 × St)} (hk7 : ∀ (u : St) (l1 : Int32), k7 u l1 = some r → Vd shM K E 3 7 [some (.inr 0), some (.inl l1), none] [] u) : ∀ (n : Nat) (u : St) (l1 l2 : Int32), f_X7_dressers_17 k7 n u l1 l2 = some r → Vd shM K E 3 17 [some (.inr 0), some (.inl l1), some (.inl l2)] [] u := by
  intro n
  induction n with
  | zero => intro u l1 l2 hf; cases hf
  | succ n ih =>
    intro u l1 l2 hf
    refine r_iload_n (pc := 17) h dX7_dressers_17 rfl ?_
    refine r_aload_n (pc := 18) h dX7_dressers_18 rfl ?_
    refine gf_X7_65 (pc := 19) h dX7_dressers_19 ?_
    refine r_iload_n (pc := 22) h dX7_dressers_22 rfl ?_
    refine p_g hf (fun hi5 hf => ?_)
    refine r_iald (pc := 23) (k := 18) (v := (u 18 l1.toNatClampNeg)) h hshM_18 hi5 rfl dX7_dressers_23 ?_
    refine p_ite hf (fun hc6 hf => ?_) (fun hc6 hf => ?_)
    · refine r_icmp_ge (pc := 24) (tgt := 63) h dX7_dressers_24 (by decide) (fun _ => ?_) (fun q => absurd hc6 q)
      refine r_iinc (pc := 63) (v := (l1 + 1)) (L' := [some (.inr 0), some (.inl (l1 + 1)), some (.inl l2)]) h dX7_dressers_63 rfl rfl (by decide) rfl ?_
      refine r_goto (pc := 66) (tgt := 7) h dX7_dressers_66 (by decide) ?_
      refine r_le [some (.inr 0), some (.inl (l1 + 1)), none] ⟨rfl, ⟨rfl, trivial⟩⟩ ?_
      exact hk7 _ _ hf
    · refine r_icmp_ge (pc := 24) (tgt := 63) h dX7_dressers_24 (by decide) (fun q => absurd q hc6) (fun _ => ?_)
      refine r_aload_n (pc := 27) h dX7_dressers_27 rfl ?_
      refine gf_X7_77 (pc := 28) h dX7_dressers_28 ?_
      refine r_aload_n (pc := 31) h dX7_dressers_31 rfl ?_
      refine gf_X7_169 (pc := 32) (v := (u 0 30)) h rfl dX7_dressers_32 ?_
      refine r_iload_n (pc := 35) h dX7_dressers_35 rfl ?_
      refine p_g hf (fun hi7 hf => ?_)
      refine r_iast (pc := 36) (k := 22) h hshM_22 hi7 dX7_dressers_36 ?_
      refine r_aload_n (pc := 37) h dX7_dressers_37 rfl ?_
      refine gf_X7_80 (pc := 38) h dX7_dressers_38 ?_
      refine r_aload_n (pc := 41) h dX7_dressers_41 rfl ?_
      refine gf_X7_169 (pc := 42) (v := (u 0 30)) h rfl dX7_dressers_42 ?_
      refine r_iconst (pc := 45) (v := (-1)) h dX7_dressers_45 (by decide) ?_
      refine r_iast (pc := 46) (k := 23) h hshM_23 hi7 dX7_dressers_46 ?_
      refine r_aload_n (pc := 47) h dX7_dressers_47 rfl ?_
      refine r_dup (pc := 48) h dX7_dressers_48 ?_
      refine gf_X7_169 (pc := 49) (v := (u 0 30)) h rfl dX7_dressers_49 ?_
      refine r_iconst (pc := 52) (v := 1) h dX7_dressers_52 (by decide) ?_
      refine r_iadd (pc := 53) h dX7_dressers_53 ?_
      refine pf_X7_169 (pc := 54) h dX7_dressers_54 ?_
      refine r_iinc (pc := 57) (v := (l2 + 1)) (L' := [some (.inr 0), some (.inl l1), some (.inl (l2 + 1))]) h dX7_dressers_57 rfl rfl (by decide) rfl ?_
      refine r_goto (pc := 60) (tgt := 17) h dX7_dressers_60 (by decide) ?_
      exact ih _ _ _ hf
set_option maxRecDepth 100000 in
set_option maxHeartbeats 4000000 in
theorem w_X7_dressers_7 {K : Kx} {E : Ex} (h : Ok shM K E RX7 cX7_dressers 3 rm_X7_dressers) {r : Int32 × St} (hr : RetI shM K E cX7_dressers 3 r.1 r.2) : ∀ (n : Nat) (u : St) (l1 : Int32), f_X7_dressers_7 n u l1 = some r → Vd shM K E 3 7 [some (.inr 0), some (.inl l1), none] [] u := by
  intro n
  induction n with
  | zero => intro u l1 hf; cases hf
  | succ n ih =>
    intro u l1 hf
    refine r_iload_n (pc := 7) h dX7_dressers_7 rfl ?_
    refine r_aload_n (pc := 8) h dX7_dressers_8 rfl ?_
    refine gf_X7_166 (pc := 9) (v := (u 0 14)) h rfl dX7_dressers_9 ?_
    refine p_ite hf (fun hc8 hf => ?_) (fun hc8 hf => ?_)
    · refine r_icmp_ge (pc := 12) (tgt := 69) h dX7_dressers_12 (by decide) (fun _ => ?_) (fun q => absurd hc8 q)
      refine r_aload_n (pc := 69) h dX7_dressers_69 rfl ?_
      refine gf_X7_169 (pc := 70) (v := (u 0 30)) h rfl dX7_dressers_70 ?_
      refine r_istore_n (pc := 73) (L' := [some (.inr 0), some (.inl (u 0 30)), none]) h dX7_dressers_73 (by decide) rfl ?_
      refine r_iconst (pc := 74) (v := 0) h dX7_dressers_74 (by decide) ?_
      refine r_istore_n (pc := 75) (L' := [some (.inr 0), some (.inl (u 0 30)), some (.inl 0)]) h dX7_dressers_75 (by decide) rfl ?_
      exact w_X7_dressers_76 h hr FU _ _ _ hf
    · refine r_icmp_ge (pc := 12) (tgt := 69) h dX7_dressers_12 (by decide) (fun q => absurd q hc8) (fun _ => ?_)
      refine r_iconst (pc := 15) (v := 0) h dX7_dressers_15 (by decide) ?_
      refine r_istore_n (pc := 16) (L' := [some (.inr 0), some (.inl l1), some (.inl 0)]) h dX7_dressers_16 (by decide) rfl ?_
      exact w_X7_dressers_17 h hr (fun u9 x0 e9 => ih u9 x0 e9) FU _ _ _ hf
set_option maxRecDepth 100000 in
set_option maxHeartbeats 4000000 in
theorem w_X7_dressers_0 {K : Kx} {E : Ex} (h : Ok shM K E RX7 cX7_dressers 3 rm_X7_dressers) {r : Int32 × St} (hr : RetI shM K E cX7_dressers 3 r.1 r.2) (u : St) (hf : f_X7_dressers u = some r) : Vd shM K E 3 0 [some (.inr 0), none, none] [] u := by
  refine r_aload_n (pc := 0) h dX7_dressers_0 rfl ?_
  refine r_iconst (pc := 1) (v := 0) h dX7_dressers_1 (by decide) ?_
  refine pf_X7_169 (pc := 2) h dX7_dressers_2 ?_
  refine r_iconst (pc := 5) (v := 0) h dX7_dressers_5 (by decide) ?_
  refine r_istore_n (pc := 6) (L' := [some (.inr 0), some (.inl 0), none]) h dX7_dressers_6 (by decide) rfl ?_
  exact w_X7_dressers_7 h hr FU _ _ hf
theorem c_X7_dressers {u : St} {r : Int32 × St} (hf : f_X7_dressers u = some r) : CtI shM yX7_dressers cX7_dressers 3 (some .int) rm_X7_dressers [.inr 0] u r.1 r.2 := ct_I (by decide +kernel) (Nat.le_of_ble_eq_true rfl) (fun K E h hr => w_X7_dressers_0 h hr _ hf)
set_option maxRecDepth 100000 in
set_option maxHeartbeats 4000000 in
theorem w_X7_worn_0 {K : Kx} {E : Ex} (h : Ok shM K E RX7 cX7_worn 2 rm_X7_worn) {r : Int32 × St} (hr : RetI shM K E cX7_worn 2 r.1 r.2) (u : St) (l1 : Int32) (hf : f_X7_worn u l1 = some r) : Vd shM K E 2 0 [some (.inr 0), some (.inl l1)] [] u := by
  refine r_aload_n (pc := 0) h dX7_worn_0 rfl ?_
  refine r_iload_n (pc := 1) h dX7_worn_1 rfl ?_
  refine p_b hf (fun q1 e2 hf => ?_)
  refine r_cVi (pc := 2) (k := 0) (st := []) h [.inl l1] cv_X7_isPiece wm_X7_108 (c_X7_isPiece e2) ⟨rfl, rfl, Nat.le_of_ble_eq_true rfl, Nat.le_of_ble_eq_true rfl⟩ hshM_0 rfl rfl (Nat.le_of_ble_eq_true rfl) dX7_worn_2 ?_
  refine p_ite hf (fun hc3 hf => ?_) (fun hc3 hf => ?_)
  · refine r_if_ne (pc := 5) (tgt := 14) h dX7_worn_5 (by decide) (fun q => absurd hc3 q) (fun _ => ?_)
    refine r_aload_n (pc := 8) h dX7_worn_8 rfl ?_
    refine r_iconst (pc := 9) (v := 1) h dX7_worn_9 (by decide) ?_
    refine p_b hf (fun q8 e9 hf => ?_)
    refine r_cVi (pc := 10) (k := 0) (st := []) h [.inl 1] cv_X7_finding wm_X7_104 (c_X7_finding e9) ⟨rfl, rfl, Nat.le_of_ble_eq_true rfl, Nat.le_of_ble_eq_true rfl⟩ hshM_0 rfl rfl (Nat.le_of_ble_eq_true rfl) dX7_worn_10 ?_
    have hf := Option.some.inj hf
    subst hf
    exact hr 13 _ dX7_worn_13
  · refine r_if_ne (pc := 5) (tgt := 14) h dX7_worn_5 (by decide) (fun _ => ?_) (fun q => absurd q hc3)
    refine r_aload_n (pc := 14) h dX7_worn_14 rfl ?_
    refine gf_X7_34 (pc := 15) h dX7_worn_15 ?_
    refine r_iload_n (pc := 18) h dX7_worn_18 rfl ?_
    refine p_g hf (fun hi4 hf => ?_)
    refine r_iald (pc := 19) (k := 9) (v := (u 9 l1.toNatClampNeg)) h hshM_9 hi4 rfl dX7_worn_19 ?_
    refine p_ite hf (fun hc5 hf => ?_) (fun hc5 hf => ?_)
    · refine r_if_eq (pc := 20) (tgt := 29) h dX7_worn_20 (by decide) (fun _ => ?_) (fun q => absurd hc5 q)
      refine r_aload_n (pc := 29) h dX7_worn_29 rfl ?_
      refine gf_X7_34 (pc := 30) h dX7_worn_30 ?_
      refine r_iload_n (pc := 33) h dX7_worn_33 rfl ?_
      refine r_iconst (pc := 34) (v := 1) h dX7_worn_34 (by decide) ?_
      refine r_iast (pc := 35) (k := 9) h hshM_9 hi4 dX7_worn_35 ?_
      refine r_iconst (pc := 36) (v := 1) h dX7_worn_36 (by decide) ?_
      have hf := Option.some.inj hf
      subst hf
      exact hr 37 _ dX7_worn_37
    · refine r_if_eq (pc := 20) (tgt := 29) h dX7_worn_20 (by decide) (fun q => absurd q hc5) (fun _ => ?_)
      refine r_aload_n (pc := 23) h dX7_worn_23 rfl ?_
      refine r_iconst (pc := 24) (v := 3) h dX7_worn_24 (by decide) ?_
      refine p_b hf (fun q6 e7 hf => ?_)
      refine r_cVi (pc := 25) (k := 0) (st := []) h [.inl 3] cv_X7_finding wm_X7_104 (c_X7_finding e7) ⟨rfl, rfl, Nat.le_of_ble_eq_true rfl, Nat.le_of_ble_eq_true rfl⟩ hshM_0 rfl rfl (Nat.le_of_ble_eq_true rfl) dX7_worn_25 ?_
      have hf := Option.some.inj hf
      subst hf
      exact hr 28 _ dX7_worn_28
theorem c_X7_worn {u : St} {l1 : Int32} {r : Int32 × St} (hf : f_X7_worn u l1 = some r) : CtI shM yX7_worn cX7_worn 2 (some .int) rm_X7_worn [.inr 0, .inl l1] u r.1 r.2 := ct_I (by decide +kernel) (Nat.le_of_ble_eq_true rfl) (fun K E h hr => w_X7_worn_0 h hr _ _ hf)
set_option maxRecDepth 100000 in
set_option maxHeartbeats 4000000 in
theorem w_X7_washing_4 {K : Kx} {E : Ex} (h : Ok shM K E RX7 cX7_washing 3 rm_X7_washing) {r : Int32} {u : St} (hr : RetI shM K E cX7_washing 3 r u) : ∀ (n : Nat) (l1 l2 : Int32), f_X7_washing_4 u n l1 l2 = some r → Vd shM K E 3 4 [some (.inr 0), some (.inl l1), some (.inl l2)] [] u := by
  intro n
  induction n with
  | zero => intro l1 l2 hf; cases hf
  | succ n ih =>
    intro l1 l2 hf
    refine r_iload_n (pc := 4) h dX7_washing_4 rfl ?_
    refine r_aload_n (pc := 5) h dX7_washing_5 rfl ?_
    refine gf_X7_97 (pc := 6) (v := (u 0 0)) h rfl dX7_washing_6 ?_
    refine p_ite hf (fun hc1 hf => ?_) (fun hc1 hf => ?_)
    · refine r_icmp_ge (pc := 9) (tgt := 36) h dX7_washing_9 (by decide) (fun _ => ?_) (fun q => absurd hc1 q)
      refine r_iload_n (pc := 36) h dX7_washing_36 rfl ?_
      have hf := Option.some.inj hf
      subst hf
      exact hr 37 _ dX7_washing_37
    · refine r_icmp_ge (pc := 9) (tgt := 36) h dX7_washing_9 (by decide) (fun q => absurd q hc1) (fun _ => ?_)
      refine r_iload_n (pc := 12) h dX7_washing_12 rfl ?_
      refine r_aload_n (pc := 13) h dX7_washing_13 rfl ?_
      refine gf_X7_34 (pc := 14) h dX7_washing_14 ?_
      refine r_iload_n (pc := 17) h dX7_washing_17 rfl ?_
      refine p_g hf (fun hi2 hf => ?_)
      refine r_iald (pc := 18) (k := 9) (v := (u 9 l2.toNatClampNeg)) h hshM_9 hi2 rfl dX7_washing_18 ?_
      refine r_iconst (pc := 19) (v := 2) h dX7_washing_19 (by decide) ?_
      refine p_ite hf (fun hc3 hf => ?_) (fun hc3 hf => ?_)
      · refine r_icmp_ne (pc := 20) (tgt := 27) h dX7_washing_20 (by decide) (fun q => absurd hc3 q) (fun _ => ?_)
        refine r_iconst (pc := 23) (v := 1) h dX7_washing_23 (by decide) ?_
        refine r_goto (pc := 24) (tgt := 28) h dX7_washing_24 (by decide) ?_
        refine r_iadd (pc := 28) h dX7_washing_28 ?_
        refine r_istore_n (pc := 29) (L' := [some (.inr 0), some (.inl (l1 + 1)), some (.inl l2)]) h dX7_washing_29 (by decide) rfl ?_
        refine r_iinc (pc := 30) (v := (l2 + 1)) (L' := [some (.inr 0), some (.inl (l1 + 1)), some (.inl (l2 + 1))]) h dX7_washing_30 rfl rfl (by decide) rfl ?_
        refine r_goto (pc := 33) (tgt := 4) h dX7_washing_33 (by decide) ?_
        exact ih _ _ hf
      · refine r_icmp_ne (pc := 20) (tgt := 27) h dX7_washing_20 (by decide) (fun _ => ?_) (fun q => absurd q hc3)
        refine r_iconst (pc := 27) (v := 0) h dX7_washing_27 (by decide) ?_
        refine r_iadd (pc := 28) h dX7_washing_28 ?_
        refine r_istore_n (pc := 29) (L' := [some (.inr 0), some (.inl (l1 + 0)), some (.inl l2)]) h dX7_washing_29 (by decide) rfl ?_
        refine r_iinc (pc := 30) (v := (l2 + 1)) (L' := [some (.inr 0), some (.inl (l1 + 0)), some (.inl (l2 + 1))]) h dX7_washing_30 rfl rfl (by decide) rfl ?_
        refine r_goto (pc := 33) (tgt := 4) h dX7_washing_33 (by decide) ?_
        exact ih _ _ hf
set_option maxRecDepth 100000 in
set_option maxHeartbeats 4000000 in
theorem w_X7_washing_0 {K : Kx} {E : Ex} (h : Ok shM K E RX7 cX7_washing 3 rm_X7_washing) {r : Int32} {u : St} (hr : RetI shM K E cX7_washing 3 r u)  (hf : f_X7_washing u = some r) : Vd shM K E 3 0 [some (.inr 0), none, none] [] u := by
  refine r_iconst (pc := 0) (v := 0) h dX7_washing_0 (by decide) ?_
  refine r_istore_n (pc := 1) (L' := [some (.inr 0), some (.inl 0), none]) h dX7_washing_1 (by decide) rfl ?_
  refine r_iconst (pc := 2) (v := 0) h dX7_washing_2 (by decide) ?_
  refine r_istore_n (pc := 3) (L' := [some (.inr 0), some (.inl 0), some (.inl 0)]) h dX7_washing_3 (by decide) rfl ?_
  exact w_X7_washing_4 h hr FU _ _ hf
theorem c_X7_washing {u : St} {r : Int32} (hf : f_X7_washing u = some r) : CtI shM yX7_washing cX7_washing 3 (some .int) rm_X7_washing [.inr 0] u r u := ct_I (by decide +kernel) (Nat.le_of_ble_eq_true rfl) (fun K E h hr => w_X7_washing_0 h hr  hf)
set_option maxRecDepth 100000 in
set_option maxHeartbeats 4000000 in
theorem w_X7_wash_0 {K : Kx} {E : Ex} (h : Ok shM K E RX7 cX7_wash 2 rm_X7_wash) {r : Int32 × St} (hr : RetI shM K E cX7_wash 2 r.1 r.2) (u : St) (l1 : Int32) (hf : f_X7_wash u l1 = some r) : Vd shM K E 2 0 [some (.inr 0), some (.inl l1)] [] u := by
  refine r_aload_n (pc := 0) h dX7_wash_0 rfl ?_
  refine r_iload_n (pc := 1) h dX7_wash_1 rfl ?_
  refine p_b hf (fun q1 e2 hf => ?_)
  refine r_cVi (pc := 2) (k := 0) (st := []) h [.inl l1] cv_X7_isPiece wm_X7_108 (c_X7_isPiece e2) ⟨rfl, rfl, Nat.le_of_ble_eq_true rfl, Nat.le_of_ble_eq_true rfl⟩ hshM_0 rfl rfl (Nat.le_of_ble_eq_true rfl) dX7_wash_2 ?_
  refine p_ite hf (fun hc3 hf => ?_) (fun hc3 hf => ?_)
  · refine r_if_ne (pc := 5) (tgt := 14) h dX7_wash_5 (by decide) (fun q => absurd hc3 q) (fun _ => ?_)
    refine r_aload_n (pc := 8) h dX7_wash_8 rfl ?_
    refine r_iconst (pc := 9) (v := 1) h dX7_wash_9 (by decide) ?_
    refine p_b hf (fun q13 e14 hf => ?_)
    refine r_cVi (pc := 10) (k := 0) (st := []) h [.inl 1] cv_X7_finding wm_X7_104 (c_X7_finding e14) ⟨rfl, rfl, Nat.le_of_ble_eq_true rfl, Nat.le_of_ble_eq_true rfl⟩ hshM_0 rfl rfl (Nat.le_of_ble_eq_true rfl) dX7_wash_10 ?_
    have hf := Option.some.inj hf
    subst hf
    exact hr 13 _ dX7_wash_13
  · refine r_if_ne (pc := 5) (tgt := 14) h dX7_wash_5 (by decide) (fun _ => ?_) (fun q => absurd q hc3)
    refine r_aload_n (pc := 14) h dX7_wash_14 rfl ?_
    refine gf_X7_34 (pc := 15) h dX7_wash_15 ?_
    refine r_iload_n (pc := 18) h dX7_wash_18 rfl ?_
    refine p_g hf (fun hi4 hf => ?_)
    refine r_iald (pc := 19) (k := 9) (v := (u 9 l1.toNatClampNeg)) h hshM_9 hi4 rfl dX7_wash_19 ?_
    refine r_iconst (pc := 20) (v := 1) h dX7_wash_20 (by decide) ?_
    refine p_ite hf (fun hc5 hf => ?_) (fun hc5 hf => ?_)
    · refine r_icmp_eq (pc := 21) (tgt := 30) h dX7_wash_21 (by decide) (fun _ => ?_) (fun q => absurd hc5 q)
      refine r_aload_n (pc := 30) h dX7_wash_30 rfl ?_
      refine p_b hf (fun q6 e7 hf => ?_)
      refine r_cVi (pc := 31) (k := 0) (st := []) h [] cv_X7_washing wm_X7_178 (c_X7_washing e7) ⟨rfl, rfl, Nat.le_of_ble_eq_true rfl, Nat.le_of_ble_eq_true rfl⟩ hshM_0 rfl rfl (Nat.le_of_ble_eq_true rfl) dX7_wash_31 ?_
      refine r_bipush (pc := 34) (v := 6) h dX7_wash_34 (by decide) ?_
      refine p_ite hf (fun hc8 hf => ?_) (fun hc8 hf => ?_)
      · refine r_icmp_ne (pc := 36) (tgt := 45) h dX7_wash_36 (by decide) (fun q => absurd hc8 q) (fun _ => ?_)
        refine r_aload_n (pc := 39) h dX7_wash_39 rfl ?_
        refine r_iconst (pc := 40) (v := 4) h dX7_wash_40 (by decide) ?_
        refine p_b hf (fun q9 e10 hf => ?_)
        refine r_cVi (pc := 41) (k := 0) (st := []) h [.inl 4] cv_X7_finding wm_X7_104 (c_X7_finding e10) ⟨rfl, rfl, Nat.le_of_ble_eq_true rfl, Nat.le_of_ble_eq_true rfl⟩ hshM_0 rfl rfl (Nat.le_of_ble_eq_true rfl) dX7_wash_41 ?_
        have hf := Option.some.inj hf
        subst hf
        exact hr 44 _ dX7_wash_44
      · refine r_icmp_ne (pc := 36) (tgt := 45) h dX7_wash_36 (by decide) (fun _ => ?_) (fun q => absurd q hc8)
        refine r_aload_n (pc := 45) h dX7_wash_45 rfl ?_
        refine gf_X7_34 (pc := 46) h dX7_wash_46 ?_
        refine r_iload_n (pc := 49) h dX7_wash_49 rfl ?_
        refine r_iconst (pc := 50) (v := 2) h dX7_wash_50 (by decide) ?_
        refine r_iast (pc := 51) (k := 9) h hshM_9 hi4 dX7_wash_51 ?_
        refine r_aload_n (pc := 52) h dX7_wash_52 rfl ?_
        refine gf_X7_37 (pc := 53) h dX7_wash_53 ?_
        refine r_iload_n (pc := 56) h dX7_wash_56 rfl ?_
        refine r_aload_n (pc := 57) h dX7_wash_57 rfl ?_
        refine gf_X7_182 (pc := 58) (v := (u 0 22)) h rfl dX7_wash_58 ?_
        refine r_iconst (pc := 61) (v := 2) h dX7_wash_61 (by decide) ?_
        refine r_iadd (pc := 62) h dX7_wash_62 ?_
        refine r_iast (pc := 63) (k := 10) h hshM_10 hi4 dX7_wash_63 ?_
        refine r_aload_n (pc := 64) h dX7_wash_64 rfl ?_
        refine gf_X7_182 (pc := 65) (v := (u 0 22)) h rfl dX7_wash_65 ?_
        refine r_iconst (pc := 68) (v := 2) h dX7_wash_68 (by decide) ?_
        refine r_iadd (pc := 69) h dX7_wash_69 ?_
        refine r_aload_n (pc := 70) h dX7_wash_70 rfl ?_
        refine gf_X7_16 (pc := 71) h dX7_wash_71 ?_
        refine r_iload_n (pc := 74) h dX7_wash_74 rfl ?_
        refine r_iald (pc := 75) (k := 3) (v := (u 3 l1.toNatClampNeg)) h hshM_3 hi4 rfl dX7_wash_75 ?_
        refine r_iadd (pc := 76) h dX7_wash_76 ?_
        have hf := Option.some.inj hf
        subst hf
        exact hr 77 _ dX7_wash_77
    · refine r_icmp_eq (pc := 21) (tgt := 30) h dX7_wash_21 (by decide) (fun q => absurd q hc5) (fun _ => ?_)
      refine r_aload_n (pc := 24) h dX7_wash_24 rfl ?_
      refine r_iconst (pc := 25) (v := 3) h dX7_wash_25 (by decide) ?_
      refine p_b hf (fun q11 e12 hf => ?_)
      refine r_cVi (pc := 26) (k := 0) (st := []) h [.inl 3] cv_X7_finding wm_X7_104 (c_X7_finding e12) ⟨rfl, rfl, Nat.le_of_ble_eq_true rfl, Nat.le_of_ble_eq_true rfl⟩ hshM_0 rfl rfl (Nat.le_of_ble_eq_true rfl) dX7_wash_26 ?_
      have hf := Option.some.inj hf
      subst hf
      exact hr 29 _ dX7_wash_29
theorem c_X7_wash {u : St} {l1 : Int32} {r : Int32 × St} (hf : f_X7_wash u l1 = some r) : CtI shM yX7_wash cX7_wash 2 (some .int) rm_X7_wash [.inr 0, .inl l1] u r.1 r.2 := ct_I (by decide +kernel) (Nat.le_of_ble_eq_true rfl) (fun K E h hr => w_X7_wash_0 h hr _ _ hf)
set_option maxRecDepth 100000 in
set_option maxHeartbeats 4000000 in
theorem w_X7_hours_100 {K : Kx} {E : Ex} (h : Ok shM K E RX7 cX7_hours 4 rm_X7_hours) {r : Int32 × St} (hr : RetI shM K E cX7_hours 4 r.1 r.2) {k47 : St → Int32 → Int32 → Option (Int32 × St)} (hk47 : ∀ (u : St) (l2 l3 : Int32), k47 u l2 l3 = some r → Vd shM K E 4 47 [some (.inr 0), none, some (.inl l2), some (.inl l3)] [] u) (u : St) (l2 l3 : Int32) (hf : f_X7_hours_100 k47 u l2 l3 = some r) : Vd shM K E 4 100 [some (.inr 0), none, some (.inl l2), some (.inl l3)] [] u := by
  refine r_aload_n (pc := 100) h dX7_hours_100 rfl ?_
  refine gf_X7_34 (pc := 101) h dX7_hours_101 ?_
  refine r_iload_n (pc := 104) h dX7_hours_104 rfl ?_
  refine p_g hf (fun hi1 hf => ?_)
  refine r_iald (pc := 105) (k := 9) (v := (u 9 l3.toNatClampNeg)) h hshM_9 hi1 rfl dX7_hours_105 ?_
  refine r_iconst (pc := 106) (v := 3) h dX7_hours_106 (by decide) ?_
  refine p_ite hf (fun hc2 hf => ?_) (fun hc2 hf => ?_)
  · refine r_icmp_ne (pc := 107) (tgt := 133) h dX7_hours_107 (by decide) (fun q => absurd hc2 q) (fun _ => ?_)
    refine r_aload_n (pc := 110) h dX7_hours_110 rfl ?_
    refine gf_X7_37 (pc := 111) h dX7_hours_111 ?_
    refine r_iload_n (pc := 114) h dX7_hours_114 rfl ?_
    refine r_iald (pc := 115) (k := 10) (v := (u 10 l3.toNatClampNeg)) h hshM_10 hi1 rfl dX7_hours_115 ?_
    refine r_aload_n (pc := 116) h dX7_hours_116 rfl ?_
    refine gf_X7_182 (pc := 117) (v := (u 0 22)) h rfl dX7_hours_117 ?_
    refine p_ite hf (fun hc3 hf => ?_) (fun hc3 hf => ?_)
    · refine r_icmp_gt (pc := 120) (tgt := 133) h dX7_hours_120 (by decide) (fun _ => ?_) (fun q => absurd hc3 q)
      refine r_iinc (pc := 133) (v := (l3 + 1)) (L' := [some (.inr 0), none, some (.inl l2), some (.inl (l3 + 1))]) h dX7_hours_133 rfl rfl (by decide) rfl ?_
      refine r_goto (pc := 136) (tgt := 47) h dX7_hours_136 (by decide) ?_
      exact hk47 _ _ _ hf
    · refine r_icmp_gt (pc := 120) (tgt := 133) h dX7_hours_120 (by decide) (fun q => absurd q hc3) (fun _ => ?_)
      refine r_aload_n (pc := 123) h dX7_hours_123 rfl ?_
      refine gf_X7_34 (pc := 124) h dX7_hours_124 ?_
      refine r_iload_n (pc := 127) h dX7_hours_127 rfl ?_
      refine r_iconst (pc := 128) (v := 0) h dX7_hours_128 (by decide) ?_
      refine r_iast (pc := 129) (k := 9) h hshM_9 hi1 dX7_hours_129 ?_
      refine r_iinc (pc := 130) (v := (l2 + 1)) (L' := [some (.inr 0), none, some (.inl (l2 + 1)), some (.inl l3)]) h dX7_hours_130 rfl rfl (by decide) rfl ?_
      refine r_iinc (pc := 133) (v := (l3 + 1)) (L' := [some (.inr 0), none, some (.inl (l2 + 1)), some (.inl (l3 + 1))]) h dX7_hours_133 rfl rfl (by decide) rfl ?_
      refine r_goto (pc := 136) (tgt := 47) h dX7_hours_136 (by decide) ?_
      exact hk47 _ _ _ hf
  · refine r_icmp_ne (pc := 107) (tgt := 133) h dX7_hours_107 (by decide) (fun _ => ?_) (fun q => absurd q hc2)
    refine r_iinc (pc := 133) (v := (l3 + 1)) (L' := [some (.inr 0), none, some (.inl l2), some (.inl (l3 + 1))]) h dX7_hours_133 rfl rfl (by decide) rfl ?_
    refine r_goto (pc := 136) (tgt := 47) h dX7_hours_136 (by decide) ?_
    exact hk47 _ _ _ hf
set_option maxRecDepth 100000 in
set_option maxHeartbeats 4000000 in
theorem w_X7_hours_47 {K : Kx} {E : Ex} (h : Ok shM K E RX7 cX7_hours 4 rm_X7_hours) {r : Int32 × St} (hr : RetI shM K E cX7_hours 4 r.1 r.2) : ∀ (n : Nat) (u : St) (l2 l3 : Int32), f_X7_hours_47 n u l2 l3 = some r → Vd shM K E 4 47 [some (.inr 0), none, some (.inl l2), some (.inl l3)] [] u := by
  intro n
  induction n with
  | zero => intro u l2 l3 hf; cases hf
  | succ n ih =>
    intro u l2 l3 hf
    refine r_iload_n (pc := 47) h dX7_hours_47 rfl ?_
    refine r_aload_n (pc := 48) h dX7_hours_48 rfl ?_
    refine gf_X7_97 (pc := 49) (v := (u 0 0)) h rfl dX7_hours_49 ?_
    refine p_ite hf (fun hc4 hf => ?_) (fun hc4 hf => ?_)
    · refine r_icmp_ge (pc := 52) (tgt := 139) h dX7_hours_52 (by decide) (fun _ => ?_) (fun q => absurd hc4 q)
      refine r_iload_n (pc := 139) h dX7_hours_139 rfl ?_
      have hf := Option.some.inj hf
      subst hf
      exact hr 140 _ dX7_hours_140
    · refine r_icmp_ge (pc := 52) (tgt := 139) h dX7_hours_52 (by decide) (fun q => absurd q hc4) (fun _ => ?_)
      refine r_aload_n (pc := 55) h dX7_hours_55 rfl ?_
      refine gf_X7_34 (pc := 56) h dX7_hours_56 ?_
      refine r_iload_n (pc := 59) h dX7_hours_59 rfl ?_
      refine p_g hf (fun hi5 hf => ?_)
      refine r_iald (pc := 60) (k := 9) (v := (u 9 l3.toNatClampNeg)) h hshM_9 hi5 rfl dX7_hours_60 ?_
      refine r_iconst (pc := 61) (v := 2) h dX7_hours_61 (by decide) ?_
      refine p_ite hf (fun hc6 hf => ?_) (fun hc6 hf => ?_)
      · refine r_icmp_ne (pc := 62) (tgt := 100) h dX7_hours_62 (by decide) (fun q => absurd hc6 q) (fun _ => ?_)
        refine r_aload_n (pc := 65) h dX7_hours_65 rfl ?_
        refine gf_X7_37 (pc := 66) h dX7_hours_66 ?_
        refine r_iload_n (pc := 69) h dX7_hours_69 rfl ?_
        refine r_iald (pc := 70) (k := 10) (v := (u 10 l3.toNatClampNeg)) h hshM_10 hi5 rfl dX7_hours_70 ?_
        refine r_aload_n (pc := 71) h dX7_hours_71 rfl ?_
        refine gf_X7_182 (pc := 72) (v := (u 0 22)) h rfl dX7_hours_72 ?_
        refine p_ite hf (fun hc7 hf => ?_) (fun hc7 hf => ?_)
        · refine r_icmp_gt (pc := 75) (tgt := 100) h dX7_hours_75 (by decide) (fun _ => ?_) (fun q => absurd hc7 q)
          exact w_X7_hours_100 h hr (fun u9 x0 x1 e9 => ih u9 x0 x1 e9) _ _ _ hf
        · refine r_icmp_gt (pc := 75) (tgt := 100) h dX7_hours_75 (by decide) (fun q => absurd q hc7) (fun _ => ?_)
          refine r_aload_n (pc := 78) h dX7_hours_78 rfl ?_
          refine gf_X7_34 (pc := 79) h dX7_hours_79 ?_
          refine r_iload_n (pc := 82) h dX7_hours_82 rfl ?_
          refine r_iconst (pc := 83) (v := 3) h dX7_hours_83 (by decide) ?_
          refine r_iast (pc := 84) (k := 9) h hshM_9 hi5 dX7_hours_84 ?_
          refine r_aload_n (pc := 85) h dX7_hours_85 rfl ?_
          refine gf_X7_37 (pc := 86) h dX7_hours_86 ?_
          refine r_iload_n (pc := 89) h dX7_hours_89 rfl ?_
          refine r_dup2 (pc := 90) h dX7_hours_90 ?_
          refine r_iald (pc := 91) (k := 10) (v := (u 10 l3.toNatClampNeg)) h hshM_10 hi5 rfl dX7_hours_91 ?_
          refine r_aload_n (pc := 92) h dX7_hours_92 rfl ?_
          refine gf_X7_16 (pc := 93) h dX7_hours_93 ?_
          refine r_iload_n (pc := 96) h dX7_hours_96 rfl ?_
          refine r_iald (pc := 97) (k := 3) (v := (u 3 l3.toNatClampNeg)) h hshM_3 hi5 rfl dX7_hours_97 ?_
          refine r_iadd (pc := 98) h dX7_hours_98 ?_
          refine r_iast (pc := 99) (k := 10) h hshM_10 hi5 dX7_hours_99 ?_
          exact w_X7_hours_100 h hr (fun u9 x0 x1 e9 => ih u9 x0 x1 e9) _ _ _ hf
      · refine r_icmp_ne (pc := 62) (tgt := 100) h dX7_hours_62 (by decide) (fun _ => ?_) (fun q => absurd q hc6)
        exact w_X7_hours_100 h hr (fun u9 x0 x1 e9 => ih u9 x0 x1 e9) _ _ _ hf
set_option maxRecDepth 100000 in
set_option maxHeartbeats 4000000 in
theorem w_X7_hours_0 {K : Kx} {E : Ex} (h : Ok shM K E RX7 cX7_hours 4 rm_X7_hours) {r : Int32 × St} (hr : RetI shM K E cX7_hours 4 r.1 r.2) (u : St) (l1 : Int32) (hf : f_X7_hours u l1 = some r) : Vd shM K E 4 0 [some (.inr 0), some (.inl l1), none, none] [] u := by
  refine r_iload_n (pc := 0) h dX7_hours_0 rfl ?_
  refine r_iconst (pc := 1) (v := 1) h dX7_hours_1 (by decide) ?_
  refine r_bipush (pc := 2) (v := 100) h dX7_hours_2 (by decide) ?_
  refine p_b hf (fun q8 e9 hf => ?_)
  refine r_cSi (pc := 4) (st := []) h [.inl l1, .inl 1, .inl 100] cs_X7_isIn wm_X7_100 (c_X7_isIn e9) ⟨rfl, rfl, Nat.le_of_ble_eq_true rfl, Nat.le_of_ble_eq_true rfl⟩ (Nat.le_of_ble_eq_true rfl) dX7_hours_4 ?_
  refine p_ite hf (fun hc10 hf => ?_) (fun hc10 hf => ?_)
  · refine r_if_ne (pc := 7) (tgt := 16) h dX7_hours_7 (by decide) (fun q => absurd hc10 q) (fun _ => ?_)
    refine r_aload_n (pc := 10) h dX7_hours_10 rfl ?_
    refine r_iconst (pc := 11) (v := 1) h dX7_hours_11 (by decide) ?_
    refine p_b hf (fun q14 e15 hf => ?_)
    refine r_cVi (pc := 12) (k := 0) (st := []) h [.inl 1] cv_X7_finding wm_X7_104 (c_X7_finding e15) ⟨rfl, rfl, Nat.le_of_ble_eq_true rfl, Nat.le_of_ble_eq_true rfl⟩ hshM_0 rfl rfl (Nat.le_of_ble_eq_true rfl) dX7_hours_12 ?_
    have hf := Option.some.inj hf
    subst hf
    exact hr 15 _ dX7_hours_15
  · refine r_if_ne (pc := 7) (tgt := 16) h dX7_hours_7 (by decide) (fun _ => ?_) (fun q => absurd q hc10)
    refine r_aload_n (pc := 16) h dX7_hours_16 rfl ?_
    refine gf_X7_182 (pc := 17) (v := (u 0 22)) h rfl dX7_hours_17 ?_
    refine r_iload_n (pc := 20) h dX7_hours_20 rfl ?_
    refine r_iadd (pc := 21) h dX7_hours_21 ?_
    refine r_ldc (pc := 22) h dX7_hours_22 wc_X7_185 ?_
    refine p_ite hf (fun hc11 hf => ?_) (fun hc11 hf => ?_)
    · refine r_icmp_le (pc := 24) (tgt := 33) h dX7_hours_24 (by decide) (fun _ => ?_) (fun q => absurd hc11 q)
      refine r_aload_n (pc := 33) h dX7_hours_33 rfl ?_
      refine r_dup (pc := 34) h dX7_hours_34 ?_
      refine gf_X7_182 (pc := 35) (v := (u 0 22)) h rfl dX7_hours_35 ?_
      refine r_iload_n (pc := 38) h dX7_hours_38 rfl ?_
      refine r_iadd (pc := 39) h dX7_hours_39 ?_
      refine pf_X7_182 (pc := 40) h dX7_hours_40 ?_
      refine r_iconst (pc := 43) (v := 0) h dX7_hours_43 (by decide) ?_
      refine r_istore_n (pc := 44) (L' := [some (.inr 0), some (.inl l1), some (.inl 0), none]) h dX7_hours_44 (by decide) rfl ?_
      refine r_iconst (pc := 45) (v := 0) h dX7_hours_45 (by decide) ?_
      refine r_istore_n (pc := 46) (L' := [some (.inr 0), some (.inl l1), some (.inl 0), some (.inl 0)]) h dX7_hours_46 (by decide) rfl ?_
      refine r_le [some (.inr 0), none, some (.inl 0), some (.inl 0)] ⟨rfl, ⟨rfl, ⟨rfl, trivial⟩⟩⟩ ?_
      exact w_X7_hours_47 h hr FU _ _ _ hf
    · refine r_icmp_le (pc := 24) (tgt := 33) h dX7_hours_24 (by decide) (fun q => absurd q hc11) (fun _ => ?_)
      refine r_aload_n (pc := 27) h dX7_hours_27 rfl ?_
      refine r_iconst (pc := 28) (v := 4) h dX7_hours_28 (by decide) ?_
      refine p_b hf (fun q12 e13 hf => ?_)
      refine r_cVi (pc := 29) (k := 0) (st := []) h [.inl 4] cv_X7_finding wm_X7_104 (c_X7_finding e13) ⟨rfl, rfl, Nat.le_of_ble_eq_true rfl, Nat.le_of_ble_eq_true rfl⟩ hshM_0 rfl rfl (Nat.le_of_ble_eq_true rfl) dX7_hours_29 ?_
      have hf := Option.some.inj hf
      subst hf
      exact hr 32 _ dX7_hours_32
theorem c_X7_hours {u : St} {l1 : Int32} {r : Int32 × St} (hf : f_X7_hours u l1 = some r) : CtI shM yX7_hours cX7_hours 4 (some .int) rm_X7_hours [.inr 0, .inl l1] u r.1 r.2 := ct_I (by decide +kernel) (Nat.le_of_ble_eq_true rfl) (fun K E h hr => w_X7_hours_0 h hr _ _ hf)
set_option maxRecDepth 100000 in
set_option maxHeartbeats 4000000 in
theorem w_X7_away_0 {K : Kx} {E : Ex} (h : Ok shM K E RX7 cX7_away 3 rm_X7_away) {r : Int32} {u : St} (hr : RetI shM K E cX7_away 3 r u) (l1 l2 : Int32) (hf : f_X7_away u l1 l2 = some r) : Vd shM K E 3 0 [some (.inr 0), some (.inl l1), some (.inl l2)] [] u := by
  refine r_iload_n (pc := 0) h dX7_away_0 rfl ?_
  refine r_aload_n (pc := 1) h dX7_away_1 rfl ?_
  refine gf_X7_28 (pc := 2) h dX7_away_2 ?_
  refine r_iload_n (pc := 5) h dX7_away_5 rfl ?_
  refine p_g hf (fun hi1 hf => ?_)
  refine r_iald (pc := 6) (k := 7) (v := (u 7 l1.toNatClampNeg)) h hshM_7 hi1 rfl dX7_away_6 ?_
  refine p_ite hf (fun hc2 hf => ?_) (fun hc2 hf => ?_)
  · refine r_icmp_ge (pc := 7) (tgt := 21) h dX7_away_7 (by decide) (fun _ => ?_) (fun q => absurd hc2 q)
    refine r_iload_n (pc := 21) h dX7_away_21 rfl ?_
    refine r_aload_n (pc := 22) h dX7_away_22 rfl ?_
    refine gf_X7_28 (pc := 23) h dX7_away_23 ?_
    refine r_iload_n (pc := 26) h dX7_away_26 rfl ?_
    refine r_iald (pc := 27) (k := 7) (v := (u 7 l1.toNatClampNeg)) h hshM_7 hi1 rfl dX7_away_27 ?_
    refine r_aload_n (pc := 28) h dX7_away_28 rfl ?_
    refine gf_X7_31 (pc := 29) h dX7_away_29 ?_
    refine r_iload_n (pc := 32) h dX7_away_32 rfl ?_
    refine r_iald (pc := 33) (k := 8) (v := (u 8 l1.toNatClampNeg)) h hshM_8 hi1 rfl dX7_away_33 ?_
    refine r_iadd (pc := 34) h dX7_away_34 ?_
    refine p_ite hf (fun hc3 hf => ?_) (fun hc3 hf => ?_)
    · refine r_icmp_le (pc := 35) (tgt := 56) h dX7_away_35 (by decide) (fun _ => ?_) (fun q => absurd hc3 q)
      refine r_iconst (pc := 56) (v := 0) h dX7_away_56 (by decide) ?_
      have hf := Option.some.inj hf
      subst hf
      exact hr 57 _ dX7_away_57
    · refine r_icmp_le (pc := 35) (tgt := 56) h dX7_away_35 (by decide) (fun q => absurd q hc3) (fun _ => ?_)
      refine r_iload_n (pc := 38) h dX7_away_38 rfl ?_
      refine r_aload_n (pc := 39) h dX7_away_39 rfl ?_
      refine gf_X7_28 (pc := 40) h dX7_away_40 ?_
      refine r_iload_n (pc := 43) h dX7_away_43 rfl ?_
      refine r_iald (pc := 44) (k := 7) (v := (u 7 l1.toNatClampNeg)) h hshM_7 hi1 rfl dX7_away_44 ?_
      refine r_isub (pc := 45) h dX7_away_45 ?_
      refine r_aload_n (pc := 46) h dX7_away_46 rfl ?_
      refine gf_X7_31 (pc := 47) h dX7_away_47 ?_
      refine r_iload_n (pc := 50) h dX7_away_50 rfl ?_
      refine r_iald (pc := 51) (k := 8) (v := (u 8 l1.toNatClampNeg)) h hshM_8 hi1 rfl dX7_away_51 ?_
      refine r_isub (pc := 52) h dX7_away_52 ?_
      refine r_goto (pc := 53) (tgt := 57) h dX7_away_53 (by decide) ?_
      have hf := Option.some.inj hf
      subst hf
      exact hr 57 _ dX7_away_57
  · refine r_icmp_ge (pc := 7) (tgt := 21) h dX7_away_7 (by decide) (fun q => absurd q hc2) (fun _ => ?_)
    refine r_aload_n (pc := 10) h dX7_away_10 rfl ?_
    refine gf_X7_28 (pc := 11) h dX7_away_11 ?_
    refine r_iload_n (pc := 14) h dX7_away_14 rfl ?_
    refine r_iald (pc := 15) (k := 7) (v := (u 7 l1.toNatClampNeg)) h hshM_7 hi1 rfl dX7_away_15 ?_
    refine r_iload_n (pc := 16) h dX7_away_16 rfl ?_
    refine r_isub (pc := 17) h dX7_away_17 ?_
    refine r_goto (pc := 18) (tgt := 57) h dX7_away_18 (by decide) ?_
    have hf := Option.some.inj hf
    subst hf
    exact hr 57 _ dX7_away_57
theorem c_X7_away {u : St} {l1 l2 : Int32} {r : Int32} (hf : f_X7_away u l1 l2 = some r) : CtI shM yX7_away cX7_away 3 (some .int) rm_X7_away [.inr 0, .inl l1, .inl l2] u r u := ct_I (by decide +kernel) (Nat.le_of_ble_eq_true rfl) (fun K E h hr => w_X7_away_0 h hr _ _ hf)
set_option maxRecDepth 100000 in
set_option maxHeartbeats 4000000 in
theorem w_X7_isInLook_4 {K : Kx} {E : Ex} (h : Ok shM K E RX7 cX7_isInLook 4 rm_X7_isInLook) {r : Int32} {u : St} (hr : RetZ shM K E cX7_isInLook 4 r u) : ∀ (n : Nat) (l1 l2 l3 : Int32), f_X7_isInLook_4 u n l1 l2 l3 = some r → Vd shM K E 4 4 [some (.inr 0), some (.inl l1), some (.inl l2), some (.inl l3)] [] u := by
  intro n
  induction n with
  | zero => intro l1 l2 l3 hf; cases hf
  | succ n ih =>
    intro l1 l2 l3 hf
    refine r_iload_n (pc := 4) h dX7_isInLook_4 rfl ?_
    refine r_bipush (pc := 5) (v := 12) h dX7_isInLook_5 (by decide) ?_
    refine p_ite hf (fun hc1 hf => ?_) (fun hc1 hf => ?_)
    · refine r_icmp_ge (pc := 7) (tgt := 33) h dX7_isInLook_7 (by decide) (fun _ => ?_) (fun q => absurd hc1 q)
      refine r_iload_n (pc := 33) h dX7_isInLook_33 rfl ?_
      refine p_gp hf (fun hc2 hf => ?_)
      have hf := Option.some.inj hf
      subst hf
      exact hr 34 _ dX7_isInLook_34 (z01 hc2)
    · refine r_icmp_ge (pc := 7) (tgt := 33) h dX7_isInLook_7 (by decide) (fun q => absurd q hc1) (fun _ => ?_)
      refine r_iload_n (pc := 10) h dX7_isInLook_10 rfl ?_
      refine r_aload_n (pc := 11) h dX7_isInLook_11 rfl ?_
      refine r_iload_n (pc := 12) h dX7_isInLook_12 rfl ?_
      refine r_iload_n (pc := 13) h dX7_isInLook_13 rfl ?_
      refine p_b hf (fun q3 e4 hf => ?_)
      refine r_cVi (pc := 14) (k := 0) (st := [.inl l2]) h [.inl l3, .inl l1] cv_X7_rowOf wm_X7_115 (c_X7_rowOf e4) ⟨rfl, rfl, Nat.le_of_ble_eq_true rfl, Nat.le_of_ble_eq_true rfl⟩ hshM_0 rfl rfl (Nat.le_of_ble_eq_true rfl) dX7_isInLook_14 ?_
      refine p_ite hf (fun hc5 hf => ?_) (fun hc5 hf => ?_)
      · refine r_if_lt (pc := 17) (tgt := 24) h dX7_isInLook_17 (by decide) (fun _ => ?_) (fun q => absurd hc5 q)
        refine r_iconst (pc := 24) (v := 0) h dX7_isInLook_24 (by decide) ?_
        refine r_ior (pc := 25) h dX7_isInLook_25 ?_
        refine r_istore_n (pc := 26) (L' := [some (.inr 0), some (.inl l1), some (.inl (l2 ||| 0)), some (.inl l3)]) h dX7_isInLook_26 (by decide) rfl ?_
        refine r_iinc (pc := 27) (v := (l3 + 1)) (L' := [some (.inr 0), some (.inl l1), some (.inl (l2 ||| 0)), some (.inl (l3 + 1))]) h dX7_isInLook_27 rfl rfl (by decide) rfl ?_
        refine r_goto (pc := 30) (tgt := 4) h dX7_isInLook_30 (by decide) ?_
        exact ih _ _ _ hf
      · refine r_if_lt (pc := 17) (tgt := 24) h dX7_isInLook_17 (by decide) (fun q => absurd q hc5) (fun _ => ?_)
        refine r_iconst (pc := 20) (v := 1) h dX7_isInLook_20 (by decide) ?_
        refine r_goto (pc := 21) (tgt := 25) h dX7_isInLook_21 (by decide) ?_
        refine r_ior (pc := 25) h dX7_isInLook_25 ?_
        refine r_istore_n (pc := 26) (L' := [some (.inr 0), some (.inl l1), some (.inl (l2 ||| 1)), some (.inl l3)]) h dX7_isInLook_26 (by decide) rfl ?_
        refine r_iinc (pc := 27) (v := (l3 + 1)) (L' := [some (.inr 0), some (.inl l1), some (.inl (l2 ||| 1)), some (.inl (l3 + 1))]) h dX7_isInLook_27 rfl rfl (by decide) rfl ?_
        refine r_goto (pc := 30) (tgt := 4) h dX7_isInLook_30 (by decide) ?_
        exact ih _ _ _ hf
set_option maxRecDepth 100000 in
set_option maxHeartbeats 4000000 in
theorem w_X7_isInLook_0 {K : Kx} {E : Ex} (h : Ok shM K E RX7 cX7_isInLook 4 rm_X7_isInLook) {r : Int32} {u : St} (hr : RetZ shM K E cX7_isInLook 4 r u) (l1 : Int32) (hf : f_X7_isInLook u l1 = some r) : Vd shM K E 4 0 [some (.inr 0), some (.inl l1), none, none] [] u := by
  refine r_iconst (pc := 0) (v := 0) h dX7_isInLook_0 (by decide) ?_
  refine r_istore_n (pc := 1) (L' := [some (.inr 0), some (.inl l1), some (.inl 0), none]) h dX7_isInLook_1 (by decide) rfl ?_
  refine r_iconst (pc := 2) (v := 0) h dX7_isInLook_2 (by decide) ?_
  refine r_istore_n (pc := 3) (L' := [some (.inr 0), some (.inl l1), some (.inl 0), some (.inl 0)]) h dX7_isInLook_3 (by decide) rfl ?_
  exact w_X7_isInLook_4 h hr FU _ _ _ hf
theorem c_X7_isInLook {u : St} {l1 : Int32} {r : Int32} (hf : f_X7_isInLook u l1 = some r) : CtI shM yX7_isInLook cX7_isInLook 4 (some .boolean) rm_X7_isInLook [.inr 0, .inl l1] u r u := ct_Z (by decide +kernel) (Nat.le_of_ble_eq_true rfl) (fun K E h hr => w_X7_isInLook_0 h hr _ hf)
set_option maxRecDepth 100000 in
set_option maxHeartbeats 4000000 in
theorem w_X7_isFor_0 {K : Kx} {E : Ex} (h : Ok shM K E RX7 cX7_isFor 4 rm_X7_isFor) {r : Int32} {u : St} (hr : RetZ shM K E cX7_isFor 4 r u) (l1 l2 l3 : Int32) (hf : f_X7_isFor u l1 l2 l3 = some r) : Vd shM K E 4 0 [some (.inr 0), some (.inl l1), some (.inl l2), some (.inl l3)] [] u := by
  refine r_aload_n (pc := 0) h dX7_isFor_0 rfl ?_
  refine gf_X7_25 (pc := 1) h dX7_isFor_1 ?_
  refine r_iload_n (pc := 4) h dX7_isFor_4 rfl ?_
  refine p_g hf (fun hi1 hf => ?_)
  refine r_iald (pc := 5) (k := 6) (v := (u 6 l1.toNatClampNeg)) h hshM_6 hi1 rfl dX7_isFor_5 ?_
  refine r_aload_n (pc := 6) h dX7_isFor_6 rfl ?_
  refine gf_X7_25 (pc := 7) h dX7_isFor_7 ?_
  refine r_iload_n (pc := 10) h dX7_isFor_10 rfl ?_
  refine p_g hf (fun hi2 hf => ?_)
  refine r_iald (pc := 11) (k := 6) (v := (u 6 l2.toNatClampNeg)) h hshM_6 hi2 rfl dX7_isFor_11 ?_
  refine p_ite hf (fun hc3 hf => ?_) (fun hc3 hf => ?_)
  · refine r_icmp_ne (pc := 12) (tgt := 60) h dX7_isFor_12 (by decide) (fun q => absurd hc3 q) (fun _ => ?_)
    refine r_aload_n (pc := 15) h dX7_isFor_15 rfl ?_
    refine gf_X7_13 (pc := 16) h dX7_isFor_16 ?_
    refine r_iload_n (pc := 19) h dX7_isFor_19 rfl ?_
    refine r_iald (pc := 20) (k := 2) (v := (u 2 l1.toNatClampNeg)) h hshM_2 hi1 rfl dX7_isFor_20 ?_
    refine r_aload_n (pc := 21) h dX7_isFor_21 rfl ?_
    refine gf_X7_13 (pc := 22) h dX7_isFor_22 ?_
    refine r_iload_n (pc := 25) h dX7_isFor_25 rfl ?_
    refine r_iald (pc := 26) (k := 2) (v := (u 2 l2.toNatClampNeg)) h hshM_2 hi2 rfl dX7_isFor_26 ?_
    refine p_ite hf (fun hc4 hf => ?_) (fun hc4 hf => ?_)
    · refine r_icmp_ne (pc := 27) (tgt := 60) h dX7_isFor_27 (by decide) (fun q => absurd hc4 q) (fun _ => ?_)
      refine r_aload_n (pc := 30) h dX7_isFor_30 rfl ?_
      refine r_iload_n (pc := 31) h dX7_isFor_31 rfl ?_
      refine r_iload_n (pc := 32) h dX7_isFor_32 rfl ?_
      refine p_b hf (fun q5 e6 hf => ?_)
      refine r_cVi (pc := 33) (k := 0) (st := []) h [.inl l1, .inl l3] cv_X7_away wm_X7_186 (c_X7_away e6) ⟨rfl, rfl, Nat.le_of_ble_eq_true rfl, Nat.le_of_ble_eq_true rfl⟩ hshM_0 rfl rfl (Nat.le_of_ble_eq_true rfl) dX7_isFor_33 ?_
      refine p_ite hf (fun hc7 hf => ?_) (fun hc7 hf => ?_)
      · refine r_if_ne (pc := 36) (tgt := 60) h dX7_isFor_36 (by decide) (fun q => absurd hc7 q) (fun _ => ?_)
        refine r_aload_n (pc := 39) h dX7_isFor_39 rfl ?_
        refine gf_X7_34 (pc := 40) h dX7_isFor_40 ?_
        refine r_iload_n (pc := 43) h dX7_isFor_43 rfl ?_
        refine r_iald (pc := 44) (k := 9) (v := (u 9 l1.toNatClampNeg)) h hshM_9 hi1 rfl dX7_isFor_44 ?_
        refine p_ite hf (fun hc8 hf => ?_) (fun hc8 hf => ?_)
        · refine r_if_ne (pc := 45) (tgt := 60) h dX7_isFor_45 (by decide) (fun q => absurd hc8 q) (fun _ => ?_)
          refine r_aload_n (pc := 48) h dX7_isFor_48 rfl ?_
          refine r_iload_n (pc := 49) h dX7_isFor_49 rfl ?_
          refine p_b hf (fun q9 e10 hf => ?_)
          refine r_cVi (pc := 50) (k := 0) (st := []) h [.inl l1] cv_X7_isInLook wm_X7_189 (c_X7_isInLook e10) ⟨rfl, rfl, Nat.le_of_ble_eq_true rfl, Nat.le_of_ble_eq_true rfl⟩ hshM_0 rfl rfl (Nat.le_of_ble_eq_true rfl) dX7_isFor_50 ?_
          refine p_ite hf (fun hc11 hf => ?_) (fun hc11 hf => ?_)
          · refine r_if_ne (pc := 53) (tgt := 60) h dX7_isFor_53 (by decide) (fun q => absurd hc11 q) (fun _ => ?_)
            refine r_iconst (pc := 56) (v := 1) h dX7_isFor_56 (by decide) ?_
            refine r_goto (pc := 57) (tgt := 61) h dX7_isFor_57 (by decide) ?_
            have hf := Option.some.inj hf
            subst hf
            exact hr 61 _ dX7_isFor_61 z_1
          · refine r_if_ne (pc := 53) (tgt := 60) h dX7_isFor_53 (by decide) (fun _ => ?_) (fun q => absurd q hc11)
            refine r_iconst (pc := 60) (v := 0) h dX7_isFor_60 (by decide) ?_
            have hf := Option.some.inj hf
            subst hf
            exact hr 61 _ dX7_isFor_61 z_0
        · refine r_if_ne (pc := 45) (tgt := 60) h dX7_isFor_45 (by decide) (fun _ => ?_) (fun q => absurd q hc8)
          refine r_iconst (pc := 60) (v := 0) h dX7_isFor_60 (by decide) ?_
          have hf := Option.some.inj hf
          subst hf
          exact hr 61 _ dX7_isFor_61 z_0
      · refine r_if_ne (pc := 36) (tgt := 60) h dX7_isFor_36 (by decide) (fun _ => ?_) (fun q => absurd q hc7)
        refine r_iconst (pc := 60) (v := 0) h dX7_isFor_60 (by decide) ?_
        have hf := Option.some.inj hf
        subst hf
        exact hr 61 _ dX7_isFor_61 z_0
    · refine r_icmp_ne (pc := 27) (tgt := 60) h dX7_isFor_27 (by decide) (fun _ => ?_) (fun q => absurd q hc4)
      refine r_iconst (pc := 60) (v := 0) h dX7_isFor_60 (by decide) ?_
      have hf := Option.some.inj hf
      subst hf
      exact hr 61 _ dX7_isFor_61 z_0
  · refine r_icmp_ne (pc := 12) (tgt := 60) h dX7_isFor_12 (by decide) (fun _ => ?_) (fun q => absurd q hc3)
    refine r_iconst (pc := 60) (v := 0) h dX7_isFor_60 (by decide) ?_
    have hf := Option.some.inj hf
    subst hf
    exact hr 61 _ dX7_isFor_61 z_0
theorem c_X7_isFor {u : St} {l1 l2 l3 : Int32} {r : Int32} (hf : f_X7_isFor u l1 l2 l3 = some r) : CtI shM yX7_isFor cX7_isFor 4 (some .boolean) rm_X7_isFor [.inr 0, .inl l1, .inl l2, .inl l3] u r u := ct_Z (by decide +kernel) (Nat.le_of_ble_eq_true rfl) (fun K E h hr => w_X7_isFor_0 h hr _ _ _ hf)
set_option maxRecDepth 100000 in
set_option maxHeartbeats 4000000 in
theorem w_X7_tonight_194 {K : Kx} {E : Ex} (h : Ok shM K E RX7 cX7_tonight 10 rm_X7_tonight) {r : Int32 × St} (hr : RetI shM K E cX7_tonight 10 r.1 r.2) {k29 : St → Int32 → Int32 → Int32 → Int32 → Option (Int32 × St)} (hk29 : ∀ (u : St) (l1 l2 l3 l4 : Int32), k29 u l1 l2 l3 l4 = some r → Vd shM K E 10 29 [some (.inr 0), some (.inl l1), some (.inl l2), some (.inl l3), some (.inl l4), none, none, none, none, none] [] u) : ∀ (n : Nat) (u : St) (l1 l2 l3 l4 l5 l6 l7 l8 : Int32), f_X7_tonight_194 k29 n u l1 l2 l3 l4 l5 l6 l7 l8 = some r → Vd shM K E 10 194 [some (.inr 0), some (.inl l1), some (.inl l2), some (.inl l3), some (.inl l4), some (.inl l5), some (.inl l6), some (.inl l7), some (.inl l8), none] [] u := by
  intro n
  induction n with
  | zero => intro u l1 l2 l3 l4 l5 l6 l7 l8 hf; cases hf
  | succ n ih =>
    intro u l1 l2 l3 l4 l5 l6 l7 l8 hf
    refine r_iload (pc := 194) h dX7_tonight_194 rfl ?_
    refine r_aload_n (pc := 196) h dX7_tonight_196 rfl ?_
    refine gf_X7_97 (pc := 197) (v := (u 0 0)) h rfl dX7_tonight_197 ?_
    refine p_ite hf (fun hc1 hf => ?_) (fun hc1 hf => ?_)
    · refine r_icmp_ge (pc := 200) (tgt := 231) h dX7_tonight_200 (by decide) (fun _ => ?_) (fun q => absurd hc1 q)
      refine r_iload_n (pc := 231) h dX7_tonight_231 rfl ?_
      refine r_aload_n (pc := 232) h dX7_tonight_232 rfl ?_
      refine r_iload (pc := 233) h dX7_tonight_233 rfl ?_
      refine r_iload_n (pc := 235) h dX7_tonight_235 rfl ?_
      refine p_b hf (fun q2 e3 hf => ?_)
      refine r_cVi (pc := 236) (k := 0) (st := [.inl l3]) h [.inl l5, .inl l2] cv_X7_away wm_X7_186 (c_X7_away e3) ⟨rfl, rfl, Nat.le_of_ble_eq_true rfl, Nat.le_of_ble_eq_true rfl⟩ hshM_0 rfl rfl (Nat.le_of_ble_eq_true rfl) dX7_tonight_236 ?_
      refine p_ite hf (fun hc4 hf => ?_) (fun hc4 hf => ?_)
      · refine r_if_ne (pc := 239) (tgt := 246) h dX7_tonight_239 (by decide) (fun q => absurd hc4 q) (fun _ => ?_)
        refine r_iconst (pc := 242) (v := 0) h dX7_tonight_242 (by decide) ?_
        refine r_goto (pc := 243) (tgt := 267) h dX7_tonight_243 (by decide) ?_
        refine r_iadd (pc := 267) h dX7_tonight_267 ?_
        refine r_istore_n (pc := 268) (L' := [some (.inr 0), some (.inl l1), some (.inl l2), some (.inl (l3 + 0)), some (.inl l4), some (.inl l5), some (.inl l6), some (.inl l7), some (.inl l8), none]) h dX7_tonight_268 (by decide) rfl ?_
        refine r_iinc (pc := 269) (v := (l4 + 1)) (L' := [some (.inr 0), some (.inl l1), some (.inl l2), some (.inl (l3 + 0)), some (.inl (l4 + 1)), some (.inl l5), some (.inl l6), some (.inl l7), some (.inl l8), none]) h dX7_tonight_269 rfl rfl (by decide) rfl ?_
        refine r_goto (pc := 272) (tgt := 29) h dX7_tonight_272 (by decide) ?_
        refine r_le [some (.inr 0), some (.inl l1), some (.inl l2), some (.inl (l3 + 0)), some (.inl (l4 + 1)), none, none, none, none, none] ⟨rfl, ⟨rfl, ⟨rfl, ⟨rfl, ⟨rfl, trivial⟩⟩⟩⟩⟩ ?_
        exact hk29 _ _ _ _ _ hf
      · refine r_if_ne (pc := 239) (tgt := 246) h dX7_tonight_239 (by decide) (fun _ => ?_) (fun q => absurd q hc4)
        refine r_iload (pc := 246) h dX7_tonight_246 rfl ?_
        refine r_iload (pc := 248) h dX7_tonight_248 rfl ?_
        refine p_ite hf (fun hc5 hf => ?_) (fun hc5 hf => ?_)
        · refine r_icmp_ge (pc := 250) (tgt := 257) h dX7_tonight_250 (by decide) (fun _ => ?_) (fun q => absurd hc5 q)
          refine r_bipush (pc := 257) (v := 10) h dX7_tonight_257 (by decide) ?_
          refine r_aload_n (pc := 259) h dX7_tonight_259 rfl ?_
          refine r_iload (pc := 260) h dX7_tonight_260 rfl ?_
          refine r_iload_n (pc := 262) h dX7_tonight_262 rfl ?_
          refine p_b hf (fun q6 e7 hf => ?_)
          refine r_cVi (pc := 263) (k := 0) (st := [.inl 10, .inl l3]) h [.inl l5, .inl l2] cv_X7_away wm_X7_186 (c_X7_away e7) ⟨rfl, rfl, Nat.le_of_ble_eq_true rfl, Nat.le_of_ble_eq_true rfl⟩ hshM_0 rfl rfl (Nat.le_of_ble_eq_true rfl) dX7_tonight_263 ?_
          refine r_imul (pc := 266) h dX7_tonight_266 ?_
          refine r_iadd (pc := 267) h dX7_tonight_267 ?_
          refine r_istore_n (pc := 268) (L' := [some (.inr 0), some (.inl l1), some (.inl l2), some (.inl (l3 + (10 * q6))), some (.inl l4), some (.inl l5), some (.inl l6), some (.inl l7), some (.inl l8), none]) h dX7_tonight_268 (by decide) rfl ?_
          refine r_iinc (pc := 269) (v := (l4 + 1)) (L' := [some (.inr 0), some (.inl l1), some (.inl l2), some (.inl (l3 + (10 * q6))), some (.inl (l4 + 1)), some (.inl l5), some (.inl l6), some (.inl l7), some (.inl l8), none]) h dX7_tonight_269 rfl rfl (by decide) rfl ?_
          refine r_goto (pc := 272) (tgt := 29) h dX7_tonight_272 (by decide) ?_
          refine r_le [some (.inr 0), some (.inl l1), some (.inl l2), some (.inl (l3 + (10 * q6))), some (.inl (l4 + 1)), none, none, none, none, none] ⟨rfl, ⟨rfl, ⟨rfl, ⟨rfl, ⟨rfl, trivial⟩⟩⟩⟩⟩ ?_
          exact hk29 _ _ _ _ _ hf
        · refine r_icmp_ge (pc := 250) (tgt := 257) h dX7_tonight_250 (by decide) (fun q => absurd q hc5) (fun _ => ?_)
          refine r_iconst (pc := 253) (v := 1) h dX7_tonight_253 (by decide) ?_
          refine r_goto (pc := 254) (tgt := 267) h dX7_tonight_254 (by decide) ?_
          refine r_iadd (pc := 267) h dX7_tonight_267 ?_
          refine r_istore_n (pc := 268) (L' := [some (.inr 0), some (.inl l1), some (.inl l2), some (.inl (l3 + 1)), some (.inl l4), some (.inl l5), some (.inl l6), some (.inl l7), some (.inl l8), none]) h dX7_tonight_268 (by decide) rfl ?_
          refine r_iinc (pc := 269) (v := (l4 + 1)) (L' := [some (.inr 0), some (.inl l1), some (.inl l2), some (.inl (l3 + 1)), some (.inl (l4 + 1)), some (.inl l5), some (.inl l6), some (.inl l7), some (.inl l8), none]) h dX7_tonight_269 rfl rfl (by decide) rfl ?_
          refine r_goto (pc := 272) (tgt := 29) h dX7_tonight_272 (by decide) ?_
          refine r_le [some (.inr 0), some (.inl l1), some (.inl l2), some (.inl (l3 + 1)), some (.inl (l4 + 1)), none, none, none, none, none] ⟨rfl, ⟨rfl, ⟨rfl, ⟨rfl, ⟨rfl, trivial⟩⟩⟩⟩⟩ ?_
          exact hk29 _ _ _ _ _ hf
    · refine r_icmp_ge (pc := 200) (tgt := 231) h dX7_tonight_200 (by decide) (fun q => absurd q hc1) (fun _ => ?_)
      refine r_iload (pc := 203) h dX7_tonight_203 rfl ?_
      refine r_aload_n (pc := 205) h dX7_tonight_205 rfl ?_
      refine r_iload (pc := 206) h dX7_tonight_206 rfl ?_
      refine r_iload (pc := 208) h dX7_tonight_208 rfl ?_
      refine r_iload_n (pc := 210) h dX7_tonight_210 rfl ?_
      refine p_b hf (fun q8 e9 hf => ?_)
      refine r_cVi (pc := 211) (k := 0) (st := [.inl l7]) h [.inl l8, .inl l5, .inl l2] cv_X7_isFor wm_X7_192 (c_X7_isFor e9) ⟨rfl, rfl, Nat.le_of_ble_eq_true rfl, Nat.le_of_ble_eq_true rfl⟩ hshM_0 rfl rfl (Nat.le_of_ble_eq_true rfl) dX7_tonight_211 ?_
      refine p_ite hf (fun hc10 hf => ?_) (fun hc10 hf => ?_)
      · refine r_if_eq (pc := 214) (tgt := 221) h dX7_tonight_214 (by decide) (fun _ => ?_) (fun q => absurd hc10 q)
        refine r_iconst (pc := 221) (v := 0) h dX7_tonight_221 (by decide) ?_
        refine r_iadd (pc := 222) h dX7_tonight_222 ?_
        refine r_istore (pc := 223) (L' := [some (.inr 0), some (.inl l1), some (.inl l2), some (.inl l3), some (.inl l4), some (.inl l5), some (.inl l6), some (.inl (l7 + 0)), some (.inl l8), none]) h dX7_tonight_223 (by decide) rfl ?_
        refine r_iinc (pc := 225) (v := (l8 + 1)) (L' := [some (.inr 0), some (.inl l1), some (.inl l2), some (.inl l3), some (.inl l4), some (.inl l5), some (.inl l6), some (.inl (l7 + 0)), some (.inl (l8 + 1)), none]) h dX7_tonight_225 rfl rfl (by decide) rfl ?_
        refine r_goto (pc := 228) (tgt := 194) h dX7_tonight_228 (by decide) ?_
        exact ih _ _ _ _ _ _ _ _ _ hf
      · refine r_if_eq (pc := 214) (tgt := 221) h dX7_tonight_214 (by decide) (fun q => absurd q hc10) (fun _ => ?_)
        refine r_iconst (pc := 217) (v := 1) h dX7_tonight_217 (by decide) ?_
        refine r_goto (pc := 218) (tgt := 222) h dX7_tonight_218 (by decide) ?_
        refine r_iadd (pc := 222) h dX7_tonight_222 ?_
        refine r_istore (pc := 223) (L' := [some (.inr 0), some (.inl l1), some (.inl l2), some (.inl l3), some (.inl l4), some (.inl l5), some (.inl l6), some (.inl (l7 + 1)), some (.inl l8), none]) h dX7_tonight_223 (by decide) rfl ?_
        refine r_iinc (pc := 225) (v := (l8 + 1)) (L' := [some (.inr 0), some (.inl l1), some (.inl l2), some (.inl l3), some (.inl l4), some (.inl l5), some (.inl l6), some (.inl (l7 + 1)), some (.inl (l8 + 1)), none]) h dX7_tonight_225 rfl rfl (by decide) rfl ?_
        refine r_goto (pc := 228) (tgt := 194) h dX7_tonight_228 (by decide) ?_
        exact ih _ _ _ _ _ _ _ _ _ hf
set_option maxRecDepth 100000 in
set_option maxHeartbeats 4000000 in
theorem w_X7_tonight_124 {K : Kx} {E : Ex} (h : Ok shM K E RX7 cX7_tonight 10 rm_X7_tonight) {r : Int32 × St} (hr : RetI shM K E cX7_tonight 10 r.1 r.2) {k60 : St → Int32 → Int32 → Int32 → Int32 → Int32 → Int32 → Int32 → Option (Int32 × St)} (hk60 : ∀ (u : St) (l1 l2 l3 l4 l5 l6 l7 : Int32), k60 u l1 l2 l3 l4 l5 l6 l7 = some r → Vd shM K E 10 60 [some (.inr 0), some (.inl l1), some (.inl l2), some (.inl l3), some (.inl l4), some (.inl l5), some (.inl l6), some (.inl l7), none, none] [] u) (u : St) (l1 l2 l3 l4 l5 l6 l7 l8 s0 : Int32) (hf : f_X7_tonight_124 k60 u l1 l2 l3 l4 l5 l6 l7 l8 s0 = some r) : Vd shM K E 10 124 [some (.inr 0), some (.inl l1), some (.inl l2), some (.inl l3), some (.inl l4), some (.inl l5), some (.inl l6), some (.inl l7), some (.inl l8), none] [.inl s0] u := by
  refine r_istore (pc := 124) (L' := [some (.inr 0), some (.inl l1), some (.inl l2), some (.inl l3), some (.inl l4), some (.inl l5), some (.inl l6), some (.inl l7), some (.inl l8), some (.inl s0)]) h dX7_tonight_124 (by decide) rfl ?_
  refine r_iload (pc := 126) h dX7_tonight_126 rfl ?_
  refine r_iload (pc := 128) h dX7_tonight_128 rfl ?_
  refine p_ite hf (fun hc11 hf => ?_) (fun hc11 hf => ?_)
  · refine r_if_eq (pc := 130) (tgt := 178) h dX7_tonight_130 (by decide) (fun _ => ?_) (fun q => absurd hc11 q)
    refine r_iconst (pc := 178) (v := 0) h dX7_tonight_178 (by decide) ?_
    refine r_iadd (pc := 179) h dX7_tonight_179 ?_
    refine r_istore (pc := 180) (L' := [some (.inr 0), some (.inl l1), some (.inl l2), some (.inl l3), some (.inl l4), some (.inl l5), some (.inl (l6 + 0)), some (.inl l7), some (.inl l8), some (.inl s0)]) h dX7_tonight_180 (by decide) rfl ?_
    refine r_iinc (pc := 182) (v := (l7 + 1)) (L' := [some (.inr 0), some (.inl l1), some (.inl l2), some (.inl l3), some (.inl l4), some (.inl l5), some (.inl (l6 + 0)), some (.inl (l7 + 1)), some (.inl l8), some (.inl s0)]) h dX7_tonight_182 rfl rfl (by decide) rfl ?_
    refine r_goto (pc := 185) (tgt := 60) h dX7_tonight_185 (by decide) ?_
    refine r_le [some (.inr 0), some (.inl l1), some (.inl l2), some (.inl l3), some (.inl l4), some (.inl l5), some (.inl (l6 + 0)), some (.inl (l7 + 1)), none, none] ⟨rfl, ⟨rfl, ⟨rfl, ⟨rfl, ⟨rfl, ⟨rfl, ⟨rfl, ⟨rfl, trivial⟩⟩⟩⟩⟩⟩⟩⟩ ?_
    exact hk60 _ _ _ _ _ _ _ _ hf
  · refine r_if_eq (pc := 130) (tgt := 178) h dX7_tonight_130 (by decide) (fun q => absurd q hc11) (fun _ => ?_)
    refine r_aload_n (pc := 133) h dX7_tonight_133 rfl ?_
    refine r_iload (pc := 134) h dX7_tonight_134 rfl ?_
    refine r_iload_n (pc := 136) h dX7_tonight_136 rfl ?_
    refine p_b hf (fun q12 e13 hf => ?_)
    refine r_cVi (pc := 137) (k := 0) (st := [.inl l6]) h [.inl l8, .inl l2] cv_X7_away wm_X7_186 (c_X7_away e13) ⟨rfl, rfl, Nat.le_of_ble_eq_true rfl, Nat.le_of_ble_eq_true rfl⟩ hshM_0 rfl rfl (Nat.le_of_ble_eq_true rfl) dX7_tonight_137 ?_
    refine r_aload_n (pc := 140) h dX7_tonight_140 rfl ?_
    refine r_iload (pc := 141) h dX7_tonight_141 rfl ?_
    refine r_iload_n (pc := 143) h dX7_tonight_143 rfl ?_
    refine p_b hf (fun q14 e15 hf => ?_)
    refine r_cVi (pc := 144) (k := 0) (st := [.inl q12, .inl l6]) h [.inl l5, .inl l2] cv_X7_away wm_X7_186 (c_X7_away e15) ⟨rfl, rfl, Nat.le_of_ble_eq_true rfl, Nat.le_of_ble_eq_true rfl⟩ hshM_0 rfl rfl (Nat.le_of_ble_eq_true rfl) dX7_tonight_144 ?_
    refine p_ite hf (fun hc16 hf => ?_) (fun hc16 hf => ?_)
    · refine r_icmp_gt (pc := 147) (tgt := 174) h dX7_tonight_147 (by decide) (fun _ => ?_) (fun q => absurd hc16 q)
      refine r_iconst (pc := 174) (v := 1) h dX7_tonight_174 (by decide) ?_
      refine r_goto (pc := 175) (tgt := 179) h dX7_tonight_175 (by decide) ?_
      refine r_iadd (pc := 179) h dX7_tonight_179 ?_
      refine r_istore (pc := 180) (L' := [some (.inr 0), some (.inl l1), some (.inl l2), some (.inl l3), some (.inl l4), some (.inl l5), some (.inl (l6 + 1)), some (.inl l7), some (.inl l8), some (.inl s0)]) h dX7_tonight_180 (by decide) rfl ?_
      refine r_iinc (pc := 182) (v := (l7 + 1)) (L' := [some (.inr 0), some (.inl l1), some (.inl l2), some (.inl l3), some (.inl l4), some (.inl l5), some (.inl (l6 + 1)), some (.inl (l7 + 1)), some (.inl l8), some (.inl s0)]) h dX7_tonight_182 rfl rfl (by decide) rfl ?_
      refine r_goto (pc := 185) (tgt := 60) h dX7_tonight_185 (by decide) ?_
      refine r_le [some (.inr 0), some (.inl l1), some (.inl l2), some (.inl l3), some (.inl l4), some (.inl l5), some (.inl (l6 + 1)), some (.inl (l7 + 1)), none, none] ⟨rfl, ⟨rfl, ⟨rfl, ⟨rfl, ⟨rfl, ⟨rfl, ⟨rfl, ⟨rfl, trivial⟩⟩⟩⟩⟩⟩⟩⟩ ?_
      exact hk60 _ _ _ _ _ _ _ _ hf
    · refine r_icmp_gt (pc := 147) (tgt := 174) h dX7_tonight_147 (by decide) (fun q => absurd q hc16) (fun _ => ?_)
      refine r_aload_n (pc := 150) h dX7_tonight_150 rfl ?_
      refine r_iload (pc := 151) h dX7_tonight_151 rfl ?_
      refine r_iload_n (pc := 153) h dX7_tonight_153 rfl ?_
      refine p_b hf (fun q17 e18 hf => ?_)
      refine r_cVi (pc := 154) (k := 0) (st := [.inl l6]) h [.inl l8, .inl l2] cv_X7_away wm_X7_186 (c_X7_away e18) ⟨rfl, rfl, Nat.le_of_ble_eq_true rfl, Nat.le_of_ble_eq_true rfl⟩ hshM_0 rfl rfl (Nat.le_of_ble_eq_true rfl) dX7_tonight_154 ?_
      refine r_aload_n (pc := 157) h dX7_tonight_157 rfl ?_
      refine r_iload (pc := 158) h dX7_tonight_158 rfl ?_
      refine r_iload_n (pc := 160) h dX7_tonight_160 rfl ?_
      refine p_b hf (fun q19 e20 hf => ?_)
      refine r_cVi (pc := 161) (k := 0) (st := [.inl q17, .inl l6]) h [.inl l5, .inl l2] cv_X7_away wm_X7_186 (c_X7_away e20) ⟨rfl, rfl, Nat.le_of_ble_eq_true rfl, Nat.le_of_ble_eq_true rfl⟩ hshM_0 rfl rfl (Nat.le_of_ble_eq_true rfl) dX7_tonight_161 ?_
      refine p_ite hf (fun hc21 hf => ?_) (fun hc21 hf => ?_)
      · refine r_icmp_ne (pc := 164) (tgt := 178) h dX7_tonight_164 (by decide) (fun q => absurd hc21 q) (fun _ => ?_)
        refine r_iload (pc := 167) h dX7_tonight_167 rfl ?_
        refine r_iload (pc := 169) h dX7_tonight_169 rfl ?_
        refine p_ite hf (fun hc22 hf => ?_) (fun hc22 hf => ?_)
        · refine r_icmp_ge (pc := 171) (tgt := 178) h dX7_tonight_171 (by decide) (fun _ => ?_) (fun q => absurd hc22 q)
          refine r_iconst (pc := 178) (v := 0) h dX7_tonight_178 (by decide) ?_
          refine r_iadd (pc := 179) h dX7_tonight_179 ?_
          refine r_istore (pc := 180) (L' := [some (.inr 0), some (.inl l1), some (.inl l2), some (.inl l3), some (.inl l4), some (.inl l5), some (.inl (l6 + 0)), some (.inl l7), some (.inl l8), some (.inl s0)]) h dX7_tonight_180 (by decide) rfl ?_
          refine r_iinc (pc := 182) (v := (l7 + 1)) (L' := [some (.inr 0), some (.inl l1), some (.inl l2), some (.inl l3), some (.inl l4), some (.inl l5), some (.inl (l6 + 0)), some (.inl (l7 + 1)), some (.inl l8), some (.inl s0)]) h dX7_tonight_182 rfl rfl (by decide) rfl ?_
          refine r_goto (pc := 185) (tgt := 60) h dX7_tonight_185 (by decide) ?_
          refine r_le [some (.inr 0), some (.inl l1), some (.inl l2), some (.inl l3), some (.inl l4), some (.inl l5), some (.inl (l6 + 0)), some (.inl (l7 + 1)), none, none] ⟨rfl, ⟨rfl, ⟨rfl, ⟨rfl, ⟨rfl, ⟨rfl, ⟨rfl, ⟨rfl, trivial⟩⟩⟩⟩⟩⟩⟩⟩ ?_
          exact hk60 _ _ _ _ _ _ _ _ hf
        · refine r_icmp_ge (pc := 171) (tgt := 178) h dX7_tonight_171 (by decide) (fun q => absurd q hc22) (fun _ => ?_)
          refine r_iconst (pc := 174) (v := 1) h dX7_tonight_174 (by decide) ?_
          refine r_goto (pc := 175) (tgt := 179) h dX7_tonight_175 (by decide) ?_
          refine r_iadd (pc := 179) h dX7_tonight_179 ?_
          refine r_istore (pc := 180) (L' := [some (.inr 0), some (.inl l1), some (.inl l2), some (.inl l3), some (.inl l4), some (.inl l5), some (.inl (l6 + 1)), some (.inl l7), some (.inl l8), some (.inl s0)]) h dX7_tonight_180 (by decide) rfl ?_
          refine r_iinc (pc := 182) (v := (l7 + 1)) (L' := [some (.inr 0), some (.inl l1), some (.inl l2), some (.inl l3), some (.inl l4), some (.inl l5), some (.inl (l6 + 1)), some (.inl (l7 + 1)), some (.inl l8), some (.inl s0)]) h dX7_tonight_182 rfl rfl (by decide) rfl ?_
          refine r_goto (pc := 185) (tgt := 60) h dX7_tonight_185 (by decide) ?_
          refine r_le [some (.inr 0), some (.inl l1), some (.inl l2), some (.inl l3), some (.inl l4), some (.inl l5), some (.inl (l6 + 1)), some (.inl (l7 + 1)), none, none] ⟨rfl, ⟨rfl, ⟨rfl, ⟨rfl, ⟨rfl, ⟨rfl, ⟨rfl, ⟨rfl, trivial⟩⟩⟩⟩⟩⟩⟩⟩ ?_
          exact hk60 _ _ _ _ _ _ _ _ hf
      · refine r_icmp_ne (pc := 164) (tgt := 178) h dX7_tonight_164 (by decide) (fun _ => ?_) (fun q => absurd q hc21)
        refine r_iconst (pc := 178) (v := 0) h dX7_tonight_178 (by decide) ?_
        refine r_iadd (pc := 179) h dX7_tonight_179 ?_
        refine r_istore (pc := 180) (L' := [some (.inr 0), some (.inl l1), some (.inl l2), some (.inl l3), some (.inl l4), some (.inl l5), some (.inl (l6 + 0)), some (.inl l7), some (.inl l8), some (.inl s0)]) h dX7_tonight_180 (by decide) rfl ?_
        refine r_iinc (pc := 182) (v := (l7 + 1)) (L' := [some (.inr 0), some (.inl l1), some (.inl l2), some (.inl l3), some (.inl l4), some (.inl l5), some (.inl (l6 + 0)), some (.inl (l7 + 1)), some (.inl l8), some (.inl s0)]) h dX7_tonight_182 rfl rfl (by decide) rfl ?_
        refine r_goto (pc := 185) (tgt := 60) h dX7_tonight_185 (by decide) ?_
        refine r_le [some (.inr 0), some (.inl l1), some (.inl l2), some (.inl l3), some (.inl l4), some (.inl l5), some (.inl (l6 + 0)), some (.inl (l7 + 1)), none, none] ⟨rfl, ⟨rfl, ⟨rfl, ⟨rfl, ⟨rfl, ⟨rfl, ⟨rfl, ⟨rfl, trivial⟩⟩⟩⟩⟩⟩⟩⟩ ?_
        exact hk60 _ _ _ _ _ _ _ _ hf
set_option maxRecDepth 100000 in
set_option maxHeartbeats 4000000 in
theorem w_X7_tonight_60 {K : Kx} {E : Ex} (h : Ok shM K E RX7 cX7_tonight 10 rm_X7_tonight) {r : Int32 × St} (hr : RetI shM K E cX7_tonight 10 r.1 r.2) {k29 : St → Int32 → Int32 → Int32 → Int32 → Option (Int32 × St)} (hk29 : ∀ (u : St) (l1 l2 l3 l4 : Int32), k29 u l1 l2 l3 l4 = some r → Vd shM K E 10 29 [some (.inr 0), some (.inl l1), some (.inl l2), some (.inl l3), some (.inl l4), none, none, none, none, none] [] u) : ∀ (n : Nat) (u : St) (l1 l2 l3 l4 l5 l6 l7 : Int32), f_X7_tonight_60 k29 n u l1 l2 l3 l4 l5 l6 l7 = some r → Vd shM K E 10 60 [some (.inr 0), some (.inl l1), some (.inl l2), some (.inl l3), some (.inl l4), some (.inl l5), some (.inl l6), some (.inl l7), none, none] [] u := by
  intro n
  induction n with
  | zero => intro u l1 l2 l3 l4 l5 l6 l7 hf; cases hf
  | succ n ih =>
    intro u l1 l2 l3 l4 l5 l6 l7 hf
    refine r_iload (pc := 60) h dX7_tonight_60 rfl ?_
    refine r_aload_n (pc := 62) h dX7_tonight_62 rfl ?_
    refine gf_X7_40 (pc := 63) h dX7_tonight_63 ?_
    refine r_iload_n (pc := 66) h dX7_tonight_66 rfl ?_
    refine p_g hf (fun hi23 hf => ?_)
    refine r_iald (pc := 67) (k := 11) (v := (u 11 l1.toNatClampNeg)) h hshM_11 hi23 rfl dX7_tonight_67 ?_
    refine p_ite hf (fun hc24 hf => ?_) (fun hc24 hf => ?_)
    · refine r_icmp_ge (pc := 68) (tgt := 188) h dX7_tonight_68 (by decide) (fun _ => ?_) (fun q => absurd hc24 q)
      refine r_iconst (pc := 188) (v := 0) h dX7_tonight_188 (by decide) ?_
      refine r_istore (pc := 189) (L' := [some (.inr 0), some (.inl l1), some (.inl l2), some (.inl l3), some (.inl l4), some (.inl l5), some (.inl l6), some (.inl 0), none, none]) h dX7_tonight_189 (by decide) rfl ?_
      refine r_iconst (pc := 191) (v := 0) h dX7_tonight_191 (by decide) ?_
      refine r_istore (pc := 192) (L' := [some (.inr 0), some (.inl l1), some (.inl l2), some (.inl l3), some (.inl l4), some (.inl l5), some (.inl l6), some (.inl 0), some (.inl 0), none]) h dX7_tonight_192 (by decide) rfl ?_
      exact w_X7_tonight_194 h hr hk29 FU _ _ _ _ _ _ _ _ _ hf
    · refine r_icmp_ge (pc := 68) (tgt := 188) h dX7_tonight_68 (by decide) (fun q => absurd q hc24) (fun _ => ?_)
      refine r_aload_n (pc := 71) h dX7_tonight_71 rfl ?_
      refine gf_X7_43 (pc := 72) h dX7_tonight_72 ?_
      refine r_bipush (pc := 75) (v := 8) h dX7_tonight_75 (by decide) ?_
      refine r_iload_n (pc := 77) h dX7_tonight_77 rfl ?_
      refine r_imul (pc := 78) h dX7_tonight_78 ?_
      refine r_iload (pc := 79) h dX7_tonight_79 rfl ?_
      refine r_iadd (pc := 81) h dX7_tonight_81 ?_
      refine p_g hf (fun hi25 hf => ?_)
      refine r_iald (pc := 82) (k := 12) (v := (u 12 ((8 * l1) + l7).toNatClampNeg)) h hshM_12 hi25 rfl dX7_tonight_82 ?_
      refine r_istore (pc := 83) (L' := [some (.inr 0), some (.inl l1), some (.inl l2), some (.inl l3), some (.inl l4), some (.inl l5), some (.inl l6), some (.inl l7), some (.inl (u 12 ((8 * l1) + l7).toNatClampNeg)), none]) h dX7_tonight_83 (by decide) rfl ?_
      refine r_aload_n (pc := 85) h dX7_tonight_85 rfl ?_
      refine gf_X7_25 (pc := 86) h dX7_tonight_86 ?_
      refine r_iload (pc := 89) h dX7_tonight_89 rfl ?_
      refine p_g hf (fun hi26 hf => ?_)
      refine r_iald (pc := 91) (k := 6) (v := (u 6 (u 12 ((8 * l1) + l7).toNatClampNeg).toNatClampNeg)) h hshM_6 hi26 rfl dX7_tonight_91 ?_
      refine r_aload_n (pc := 92) h dX7_tonight_92 rfl ?_
      refine gf_X7_25 (pc := 93) h dX7_tonight_93 ?_
      refine r_iload (pc := 96) h dX7_tonight_96 rfl ?_
      refine p_g hf (fun hi27 hf => ?_)
      refine r_iald (pc := 98) (k := 6) (v := (u 6 l5.toNatClampNeg)) h hshM_6 hi27 rfl dX7_tonight_98 ?_
      refine p_ite hf (fun hc28 hf => ?_) (fun hc28 hf => ?_)
      · refine r_icmp_ne (pc := 99) (tgt := 123) h dX7_tonight_99 (by decide) (fun q => absurd hc28 q) (fun _ => ?_)
        refine r_aload_n (pc := 102) h dX7_tonight_102 rfl ?_
        refine gf_X7_13 (pc := 103) h dX7_tonight_103 ?_
        refine r_iload (pc := 106) h dX7_tonight_106 rfl ?_
        refine r_iald (pc := 108) (k := 2) (v := (u 2 (u 12 ((8 * l1) + l7).toNatClampNeg).toNatClampNeg)) h hshM_2 hi26 rfl dX7_tonight_108 ?_
        refine r_aload_n (pc := 109) h dX7_tonight_109 rfl ?_
        refine gf_X7_13 (pc := 110) h dX7_tonight_110 ?_
        refine r_iload (pc := 113) h dX7_tonight_113 rfl ?_
        refine r_iald (pc := 115) (k := 2) (v := (u 2 l5.toNatClampNeg)) h hshM_2 hi27 rfl dX7_tonight_115 ?_
        refine p_ite hf (fun hc29 hf => ?_) (fun hc29 hf => ?_)
        · refine r_icmp_ne (pc := 116) (tgt := 123) h dX7_tonight_116 (by decide) (fun q => absurd hc29 q) (fun _ => ?_)
          refine r_iconst (pc := 119) (v := 1) h dX7_tonight_119 (by decide) ?_
          refine r_goto (pc := 120) (tgt := 124) h dX7_tonight_120 (by decide) ?_
          exact w_X7_tonight_124 h hr (fun u9 x0 x1 x2 x3 x4 x5 x6 e9 => ih u9 x0 x1 x2 x3 x4 x5 x6 e9) _ _ _ _ _ _ _ _ _ _ hf
        · refine r_icmp_ne (pc := 116) (tgt := 123) h dX7_tonight_116 (by decide) (fun _ => ?_) (fun q => absurd q hc29)
          refine r_iconst (pc := 123) (v := 0) h dX7_tonight_123 (by decide) ?_
          exact w_X7_tonight_124 h hr (fun u9 x0 x1 x2 x3 x4 x5 x6 e9 => ih u9 x0 x1 x2 x3 x4 x5 x6 e9) _ _ _ _ _ _ _ _ _ _ hf
      · refine r_icmp_ne (pc := 99) (tgt := 123) h dX7_tonight_99 (by decide) (fun _ => ?_) (fun q => absurd q hc28)
        refine r_iconst (pc := 123) (v := 0) h dX7_tonight_123 (by decide) ?_
        exact w_X7_tonight_124 h hr (fun u9 x0 x1 x2 x3 x4 x5 x6 e9 => ih u9 x0 x1 x2 x3 x4 x5 x6 e9) _ _ _ _ _ _ _ _ _ _ hf
set_option maxRecDepth 100000 in
set_option maxHeartbeats 4000000 in
theorem w_X7_tonight_29 {K : Kx} {E : Ex} (h : Ok shM K E RX7 cX7_tonight 10 rm_X7_tonight) {r : Int32 × St} (hr : RetI shM K E cX7_tonight 10 r.1 r.2) : ∀ (n : Nat) (u : St) (l1 l2 l3 l4 : Int32), f_X7_tonight_29 n u l1 l2 l3 l4 = some r → Vd shM K E 10 29 [some (.inr 0), some (.inl l1), some (.inl l2), some (.inl l3), some (.inl l4), none, none, none, none, none] [] u := by
  intro n
  induction n with
  | zero => intro u l1 l2 l3 l4 hf; cases hf
  | succ n ih =>
    intro u l1 l2 l3 l4 hf
    refine r_iload (pc := 29) h dX7_tonight_29 rfl ?_
    refine r_aload_n (pc := 31) h dX7_tonight_31 rfl ?_
    refine gf_X7_40 (pc := 32) h dX7_tonight_32 ?_
    refine r_iload_n (pc := 35) h dX7_tonight_35 rfl ?_
    refine p_g hf (fun hi30 hf => ?_)
    refine r_iald (pc := 36) (k := 11) (v := (u 11 l1.toNatClampNeg)) h hshM_11 hi30 rfl dX7_tonight_36 ?_
    refine p_ite hf (fun hc31 hf => ?_) (fun hc31 hf => ?_)
    · refine r_icmp_ge (pc := 37) (tgt := 275) h dX7_tonight_37 (by decide) (fun _ => ?_) (fun q => absurd hc31 q)
      refine r_iload_n (pc := 275) h dX7_tonight_275 rfl ?_
      have hf := Option.some.inj hf
      subst hf
      exact hr 276 _ dX7_tonight_276
    · refine r_icmp_ge (pc := 37) (tgt := 275) h dX7_tonight_37 (by decide) (fun q => absurd q hc31) (fun _ => ?_)
      refine r_aload_n (pc := 40) h dX7_tonight_40 rfl ?_
      refine gf_X7_43 (pc := 41) h dX7_tonight_41 ?_
      refine r_bipush (pc := 44) (v := 8) h dX7_tonight_44 (by decide) ?_
      refine r_iload_n (pc := 46) h dX7_tonight_46 rfl ?_
      refine r_imul (pc := 47) h dX7_tonight_47 ?_
      refine r_iload (pc := 48) h dX7_tonight_48 rfl ?_
      refine r_iadd (pc := 50) h dX7_tonight_50 ?_
      refine p_g hf (fun hi32 hf => ?_)
      refine r_iald (pc := 51) (k := 12) (v := (u 12 ((8 * l1) + l4).toNatClampNeg)) h hshM_12 hi32 rfl dX7_tonight_51 ?_
      refine r_istore (pc := 52) (L' := [some (.inr 0), some (.inl l1), some (.inl l2), some (.inl l3), some (.inl l4), some (.inl (u 12 ((8 * l1) + l4).toNatClampNeg)), none, none, none, none]) h dX7_tonight_52 (by decide) rfl ?_
      refine r_iconst (pc := 54) (v := 0) h dX7_tonight_54 (by decide) ?_
      refine r_istore (pc := 55) (L' := [some (.inr 0), some (.inl l1), some (.inl l2), some (.inl l3), some (.inl l4), some (.inl (u 12 ((8 * l1) + l4).toNatClampNeg)), some (.inl 0), none, none, none]) h dX7_tonight_55 (by decide) rfl ?_
      refine r_iconst (pc := 57) (v := 0) h dX7_tonight_57 (by decide) ?_
      refine r_istore (pc := 58) (L' := [some (.inr 0), some (.inl l1), some (.inl l2), some (.inl l3), some (.inl l4), some (.inl (u 12 ((8 * l1) + l4).toNatClampNeg)), some (.inl 0), some (.inl 0), none, none]) h dX7_tonight_58 (by decide) rfl ?_
      exact w_X7_tonight_60 h hr (fun u9 x0 x1 x2 x3 e9 => ih u9 x0 x1 x2 x3 e9) FU _ _ _ _ _ _ _ _ hf
set_option maxRecDepth 100000 in
set_option maxHeartbeats 4000000 in
theorem w_X7_tonight_0 {K : Kx} {E : Ex} (h : Ok shM K E RX7 cX7_tonight 10 rm_X7_tonight) {r : Int32 × St} (hr : RetI shM K E cX7_tonight 10 r.1 r.2) (u : St) (l1 l2 : Int32) (hf : f_X7_tonight u l1 l2 = some r) : Vd shM K E 10 0 [some (.inr 0), some (.inl l1), some (.inl l2), none, none, none, none, none, none, none] [] u := by
  refine r_iload_n (pc := 0) h dX7_tonight_0 rfl ?_
  refine p_b hf (fun q33 e34 hf => ?_)
  refine r_cSi (pc := 1) (st := []) h [.inl l1] cs_X7_isLook wm_X7_112 (c_X7_isLook e34) ⟨rfl, rfl, Nat.le_of_ble_eq_true rfl, Nat.le_of_ble_eq_true rfl⟩ (Nat.le_of_ble_eq_true rfl) dX7_tonight_1 ?_
  refine p_ite hf (fun hc35 hf => ?_) (fun hc35 hf => ?_)
  · refine r_if_eq (pc := 4) (tgt := 18) h dX7_tonight_4 (by decide) (fun _ => ?_) (fun q => absurd hc35 q)
    refine r_aload_n (pc := 18) h dX7_tonight_18 rfl ?_
    refine r_iconst (pc := 19) (v := 1) h dX7_tonight_19 (by decide) ?_
    refine p_b hf (fun q36 e37 hf => ?_)
    refine r_cVi (pc := 20) (k := 0) (st := []) h [.inl 1] cv_X7_finding wm_X7_104 (c_X7_finding e37) ⟨rfl, rfl, Nat.le_of_ble_eq_true rfl, Nat.le_of_ble_eq_true rfl⟩ hshM_0 rfl rfl (Nat.le_of_ble_eq_true rfl) dX7_tonight_20 ?_
    have hf := Option.some.inj hf
    subst hf
    exact hr 23 _ dX7_tonight_23
  · refine r_if_eq (pc := 4) (tgt := 18) h dX7_tonight_4 (by decide) (fun q => absurd q hc35) (fun _ => ?_)
    refine r_iload_n (pc := 7) h dX7_tonight_7 rfl ?_
    refine r_bipush (pc := 8) (v := 30) h dX7_tonight_8 (by decide) ?_
    refine r_bipush (pc := 10) (v := 66) h dX7_tonight_10 (by decide) ?_
    refine p_b hf (fun q38 e39 hf => ?_)
    refine r_cSi (pc := 12) (st := []) h [.inl l2, .inl 30, .inl 66] cs_X7_isIn wm_X7_100 (c_X7_isIn e39) ⟨rfl, rfl, Nat.le_of_ble_eq_true rfl, Nat.le_of_ble_eq_true rfl⟩ (Nat.le_of_ble_eq_true rfl) dX7_tonight_12 ?_
    refine p_ite hf (fun hc40 hf => ?_) (fun hc40 hf => ?_)
    · refine r_if_ne (pc := 15) (tgt := 24) h dX7_tonight_15 (by decide) (fun q => absurd hc40 q) (fun _ => ?_)
      refine r_aload_n (pc := 18) h dX7_tonight_18 rfl ?_
      refine r_iconst (pc := 19) (v := 1) h dX7_tonight_19 (by decide) ?_
      refine p_b hf (fun q41 e42 hf => ?_)
      refine r_cVi (pc := 20) (k := 0) (st := []) h [.inl 1] cv_X7_finding wm_X7_104 (c_X7_finding e42) ⟨rfl, rfl, Nat.le_of_ble_eq_true rfl, Nat.le_of_ble_eq_true rfl⟩ hshM_0 rfl rfl (Nat.le_of_ble_eq_true rfl) dX7_tonight_20 ?_
      have hf := Option.some.inj hf
      subst hf
      exact hr 23 _ dX7_tonight_23
    · refine r_if_ne (pc := 15) (tgt := 24) h dX7_tonight_15 (by decide) (fun _ => ?_) (fun q => absurd q hc40)
      refine r_iconst (pc := 24) (v := 0) h dX7_tonight_24 (by decide) ?_
      refine r_istore_n (pc := 25) (L' := [some (.inr 0), some (.inl l1), some (.inl l2), some (.inl 0), none, none, none, none, none, none]) h dX7_tonight_25 (by decide) rfl ?_
      refine r_iconst (pc := 26) (v := 0) h dX7_tonight_26 (by decide) ?_
      refine r_istore (pc := 27) (L' := [some (.inr 0), some (.inl l1), some (.inl l2), some (.inl 0), some (.inl 0), none, none, none, none, none]) h dX7_tonight_27 (by decide) rfl ?_
      exact w_X7_tonight_29 h hr FU _ _ _ _ _ hf
theorem c_X7_tonight {u : St} {l1 l2 : Int32} {r : Int32 × St} (hf : f_X7_tonight u l1 l2 = some r) : CtI shM yX7_tonight cX7_tonight 10 (some .int) rm_X7_tonight [.inr 0, .inl l1, .inl l2] u r.1 r.2 := ct_I (by decide +kernel) (Nat.le_of_ble_eq_true rfl) (fun K E h hr => w_X7_tonight_0 h hr _ _ _ hf)
