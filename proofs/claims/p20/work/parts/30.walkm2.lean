set_option maxRecDepth 100000 in
set_option maxHeartbeats 4000000 in
theorem w_X7_secondsOf_198 {K : Kx} {E : Ex} (h : Ok shM K E RX7 cX7_secondsOf 11 rm_X7_secondsOf) {r : Int32 × St} (hr : RetI shM K E cX7_secondsOf 11 r.1 r.2) {k127 : St → Int32 → Int32 → Int32 → Int32 → Int32 → Int32 → Option (Int32 × St)} (hk127 : ∀ (u : St) (l2 l4 l5 l6 l7 l8 : Int32), k127 u l2 l4 l5 l6 l7 l8 = some r → Vd shM K E 11 127 [some (.inr 0), none, some (.inl l2), none, some (.inl l4), some (.inl l5), some (.inl l6), some (.inl l7), some (.inl l8), none, none] [] u) (u : St) (l2 l4 l5 l7 l8 l9 l10 s0 : Int32) (hf : f_X7_secondsOf_198 k127 u l2 l4 l5 l7 l8 l9 l10 s0 = some r) : Vd shM K E 11 198 [some (.inr 0), none, some (.inl l2), none, some (.inl l4), some (.inl l5), none, some (.inl l7), some (.inl l8), some (.inl l9), some (.inl l10)] [.inl s0] u := by
  refine r_istore (pc := 198) (L' := [some (.inr 0), none, some (.inl l2), none, some (.inl l4), some (.inl l5), some (.inl s0), some (.inl l7), some (.inl l8), some (.inl l9), some (.inl l10)]) h dX7_secondsOf_198 (by decide) rfl ?_
  refine r_iload (pc := 200) h dX7_secondsOf_200 rfl ?_
  refine r_iload (pc := 202) h dX7_secondsOf_202 rfl ?_
  refine p_ite hf (fun hc1 hf => ?_) (fun hc1 hf => ?_)
  · refine r_if_le (pc := 204) (tgt := 222) h dX7_secondsOf_204 (by decide) (fun _ => ?_) (fun q => absurd hc1 q)
    refine r_iconst (pc := 222) (v := 0) h dX7_secondsOf_222 (by decide) ?_
    refine r_ior (pc := 223) h dX7_secondsOf_223 ?_
    refine r_istore (pc := 224) (L' := [some (.inr 0), none, some (.inl l2), none, some (.inl l4), some (.inl l5), some (.inl s0), some (.inl (l7 ||| 0)), some (.inl l8), some (.inl l9), some (.inl l10)]) h dX7_secondsOf_224 (by decide) rfl ?_
    refine r_iinc (pc := 226) (v := (l8 + 1)) (L' := [some (.inr 0), none, some (.inl l2), none, some (.inl l4), some (.inl l5), some (.inl s0), some (.inl (l7 ||| 0)), some (.inl (l8 + 1)), some (.inl l9), some (.inl l10)]) h dX7_secondsOf_226 rfl rfl (by decide) rfl ?_
    refine r_goto (pc := 229) (tgt := 127) h dX7_secondsOf_229 (by decide) ?_
    refine r_le [some (.inr 0), none, some (.inl l2), none, some (.inl l4), some (.inl l5), some (.inl s0), some (.inl (l7 ||| 0)), some (.inl (l8 + 1)), none, none] ⟨rfl, ⟨rfl, ⟨rfl, ⟨rfl, ⟨rfl, ⟨rfl, ⟨rfl, trivial⟩⟩⟩⟩⟩⟩⟩ ?_
    exact hk127 _ _ _ _ _ _ _ hf
  · refine r_if_le (pc := 204) (tgt := 222) h dX7_secondsOf_204 (by decide) (fun q => absurd q hc1) (fun _ => ?_)
    refine r_aload_n (pc := 207) h dX7_secondsOf_207 rfl ?_
    refine gf_X7_7 (pc := 208) h dX7_secondsOf_208 ?_
    refine r_iload (pc := 211) h dX7_secondsOf_211 rfl ?_
    refine p_g hf (fun hi2 hf => ?_)
    refine r_iald (pc := 213) (k := 1) (v := (u 1 l9.toNatClampNeg)) h hshM_1 hi2 rfl dX7_secondsOf_213 ?_
    refine r_iconst (pc := 214) (v := 1) h dX7_secondsOf_214 (by decide) ?_
    refine p_ite hf (fun hc3 hf => ?_) (fun hc3 hf => ?_)
    · refine r_icmp_ne (pc := 215) (tgt := 222) h dX7_secondsOf_215 (by decide) (fun q => absurd hc3 q) (fun _ => ?_)
      refine r_iconst (pc := 218) (v := 1) h dX7_secondsOf_218 (by decide) ?_
      refine r_goto (pc := 219) (tgt := 223) h dX7_secondsOf_219 (by decide) ?_
      refine r_ior (pc := 223) h dX7_secondsOf_223 ?_
      refine r_istore (pc := 224) (L' := [some (.inr 0), none, some (.inl l2), none, some (.inl l4), some (.inl l5), some (.inl s0), some (.inl (l7 ||| 1)), some (.inl l8), some (.inl l9), some (.inl l10)]) h dX7_secondsOf_224 (by decide) rfl ?_
      refine r_iinc (pc := 226) (v := (l8 + 1)) (L' := [some (.inr 0), none, some (.inl l2), none, some (.inl l4), some (.inl l5), some (.inl s0), some (.inl (l7 ||| 1)), some (.inl (l8 + 1)), some (.inl l9), some (.inl l10)]) h dX7_secondsOf_226 rfl rfl (by decide) rfl ?_
      refine r_goto (pc := 229) (tgt := 127) h dX7_secondsOf_229 (by decide) ?_
      refine r_le [some (.inr 0), none, some (.inl l2), none, some (.inl l4), some (.inl l5), some (.inl s0), some (.inl (l7 ||| 1)), some (.inl (l8 + 1)), none, none] ⟨rfl, ⟨rfl, ⟨rfl, ⟨rfl, ⟨rfl, ⟨rfl, ⟨rfl, trivial⟩⟩⟩⟩⟩⟩⟩ ?_
      exact hk127 _ _ _ _ _ _ _ hf
    · refine r_icmp_ne (pc := 215) (tgt := 222) h dX7_secondsOf_215 (by decide) (fun _ => ?_) (fun q => absurd q hc3)
      refine r_iconst (pc := 222) (v := 0) h dX7_secondsOf_222 (by decide) ?_
      refine r_ior (pc := 223) h dX7_secondsOf_223 ?_
      refine r_istore (pc := 224) (L' := [some (.inr 0), none, some (.inl l2), none, some (.inl l4), some (.inl l5), some (.inl s0), some (.inl (l7 ||| 0)), some (.inl l8), some (.inl l9), some (.inl l10)]) h dX7_secondsOf_224 (by decide) rfl ?_
      refine r_iinc (pc := 226) (v := (l8 + 1)) (L' := [some (.inr 0), none, some (.inl l2), none, some (.inl l4), some (.inl l5), some (.inl s0), some (.inl (l7 ||| 0)), some (.inl (l8 + 1)), some (.inl l9), some (.inl l10)]) h dX7_secondsOf_226 rfl rfl (by decide) rfl ?_
      refine r_goto (pc := 229) (tgt := 127) h dX7_secondsOf_229 (by decide) ?_
      refine r_le [some (.inr 0), none, some (.inl l2), none, some (.inl l4), some (.inl l5), some (.inl s0), some (.inl (l7 ||| 0)), some (.inl (l8 + 1)), none, none] ⟨rfl, ⟨rfl, ⟨rfl, ⟨rfl, ⟨rfl, ⟨rfl, ⟨rfl, trivial⟩⟩⟩⟩⟩⟩⟩ ?_
      exact hk127 _ _ _ _ _ _ _ hf
set_option maxRecDepth 100000 in
set_option maxHeartbeats 4000000 in
theorem w_X7_secondsOf_175 {K : Kx} {E : Ex} (h : Ok shM K E RX7 cX7_secondsOf 11 rm_X7_secondsOf) {r : Int32 × St} (hr : RetI shM K E cX7_secondsOf 11 r.1 r.2) {k127 : St → Int32 → Int32 → Int32 → Int32 → Int32 → Int32 → Option (Int32 × St)} (hk127 : ∀ (u : St) (l2 l4 l5 l6 l7 l8 : Int32), k127 u l2 l4 l5 l6 l7 l8 = some r → Vd shM K E 11 127 [some (.inr 0), none, some (.inl l2), none, some (.inl l4), some (.inl l5), some (.inl l6), some (.inl l7), some (.inl l8), none, none] [] u) (u : St) (l2 l4 l5 l6 l7 l8 l9 s0 : Int32) (hf : f_X7_secondsOf_175 k127 u l2 l4 l5 l6 l7 l8 l9 s0 = some r) : Vd shM K E 11 175 [some (.inr 0), none, some (.inl l2), none, some (.inl l4), some (.inl l5), some (.inl l6), some (.inl l7), some (.inl l8), some (.inl l9), none] [.inl s0] u := by
  refine r_istore (pc := 175) (L' := [some (.inr 0), none, some (.inl l2), none, some (.inl l4), some (.inl l5), some (.inl l6), some (.inl l7), some (.inl l8), some (.inl l9), some (.inl s0)]) h dX7_secondsOf_175 (by decide) rfl ?_
  refine r_iload (pc := 177) h dX7_secondsOf_177 rfl ?_
  refine r_iload (pc := 179) h dX7_secondsOf_179 rfl ?_
  refine r_iadd (pc := 181) h dX7_secondsOf_181 ?_
  refine r_istore (pc := 182) (L' := [some (.inr 0), none, some (.inl l2), none, some (.inl l4), some (.inl (l5 + s0)), some (.inl l6), some (.inl l7), some (.inl l8), some (.inl l9), some (.inl s0)]) h dX7_secondsOf_182 (by decide) rfl ?_
  refine r_iload (pc := 184) h dX7_secondsOf_184 rfl ?_
  refine r_iload (pc := 186) h dX7_secondsOf_186 rfl ?_
  refine p_ite hf (fun hc4 hf => ?_) (fun hc4 hf => ?_)
  · refine r_icmp_le (pc := 188) (tgt := 196) h dX7_secondsOf_188 (by decide) (fun _ => ?_) (fun q => absurd hc4 q)
    refine r_iload (pc := 196) h dX7_secondsOf_196 rfl ?_
    refine r_le [some (.inr 0), none, some (.inl l2), none, some (.inl l4), some (.inl (l5 + s0)), none, some (.inl l7), some (.inl l8), some (.inl l9), some (.inl s0)] ⟨rfl, ⟨rfl, ⟨rfl, ⟨rfl, ⟨rfl, ⟨rfl, ⟨rfl, ⟨rfl, trivial⟩⟩⟩⟩⟩⟩⟩⟩ ?_
    exact w_X7_secondsOf_198 h hr hk127 _ _ _ _ _ _ _ _ _ hf
  · refine r_icmp_le (pc := 188) (tgt := 196) h dX7_secondsOf_188 (by decide) (fun q => absurd q hc4) (fun _ => ?_)
    refine r_iload (pc := 191) h dX7_secondsOf_191 rfl ?_
    refine r_goto (pc := 193) (tgt := 198) h dX7_secondsOf_193 (by decide) ?_
    refine r_le [some (.inr 0), none, some (.inl l2), none, some (.inl l4), some (.inl (l5 + s0)), none, some (.inl l7), some (.inl l8), some (.inl l9), some (.inl s0)] ⟨rfl, ⟨rfl, ⟨rfl, ⟨rfl, ⟨rfl, ⟨rfl, ⟨rfl, ⟨rfl, trivial⟩⟩⟩⟩⟩⟩⟩⟩ ?_
    exact w_X7_secondsOf_198 h hr hk127 _ _ _ _ _ _ _ _ _ hf
set_option maxRecDepth 100000 in
set_option maxHeartbeats 4000000 in
theorem w_X7_secondsOf_127 {K : Kx} {E : Ex} (h : Ok shM K E RX7 cX7_secondsOf 11 rm_X7_secondsOf) {r : Int32 × St} (hr : RetI shM K E cX7_secondsOf 11 r.1 r.2) : ∀ (n : Nat) (u : St) (l2 l4 l5 l6 l7 l8 : Int32), f_X7_secondsOf_127 n u l2 l4 l5 l6 l7 l8 = some r → Vd shM K E 11 127 [some (.inr 0), none, some (.inl l2), none, some (.inl l4), some (.inl l5), some (.inl l6), some (.inl l7), some (.inl l8), none, none] [] u := by
  intro n
  induction n with
  | zero => intro u l2 l4 l5 l6 l7 l8 hf; cases hf
  | succ n ih =>
    intro u l2 l4 l5 l6 l7 l8 hf
    refine r_iload (pc := 127) h dX7_secondsOf_127 rfl ?_
    refine r_aload_n (pc := 129) h dX7_secondsOf_129 rfl ?_
    refine gf_X7_40 (pc := 130) h dX7_secondsOf_130 ?_
    refine r_iload_n (pc := 133) h dX7_secondsOf_133 rfl ?_
    refine p_g hf (fun hi5 hf => ?_)
    refine r_iald (pc := 134) (k := 11) (v := (u 11 l2.toNatClampNeg)) h hshM_11 hi5 rfl dX7_secondsOf_134 ?_
    refine p_ite hf (fun hc6 hf => ?_) (fun hc6 hf => ?_)
    · refine r_icmp_ge (pc := 135) (tgt := 232) h dX7_secondsOf_135 (by decide) (fun _ => ?_) (fun q => absurd hc6 q)
      refine r_iload (pc := 232) h dX7_secondsOf_232 rfl ?_
      refine r_iload (pc := 234) h dX7_secondsOf_234 rfl ?_
      refine r_iadd (pc := 236) h dX7_secondsOf_236 ?_
      refine r_iload (pc := 237) h dX7_secondsOf_237 rfl ?_
      refine r_iconst (pc := 239) (v := 1) h dX7_secondsOf_239 (by decide) ?_
      refine r_iadd (pc := 240) h dX7_secondsOf_240 ?_
      refine p_ite hf (fun _ hf => by cases hf) (fun hc7 hf => ?_)
      refine r_idiv (pc := 241) h dX7_secondsOf_241 hc7 ?_
      refine r_istore (pc := 242) (L' := [some (.inr 0), none, some (.inl l2), none, some (.inl l4), some (.inl l5), some (.inl l6), some (.inl l7), some (.inl ((l5 + l4) / (l4 + 1))), none, none]) h dX7_secondsOf_242 (by decide) rfl ?_
      refine r_iload (pc := 244) h dX7_secondsOf_244 rfl ?_
      refine p_ite hf (fun hc8 hf => ?_) (fun hc8 hf => ?_)
      · refine r_if_ne (pc := 246) (tgt := 258) h dX7_secondsOf_246 (by decide) (fun q => absurd hc8 q) (fun _ => ?_)
        refine r_iload (pc := 249) h dX7_secondsOf_249 rfl ?_
        refine p_ite hf (fun hc10 hf => ?_) (fun hc10 hf => ?_)
        · refine r_if_eq (pc := 251) (tgt := 258) h dX7_secondsOf_251 (by decide) (fun _ => ?_) (fun q => absurd hc10 q)
          refine r_iload (pc := 258) h dX7_secondsOf_258 rfl ?_
          refine r_iload (pc := 260) h dX7_secondsOf_260 rfl ?_
          refine p_ite hf (fun hc11 hf => ?_) (fun hc11 hf => ?_)
          · refine r_icmp_le (pc := 262) (tgt := 270) h dX7_secondsOf_262 (by decide) (fun _ => ?_) (fun q => absurd hc11 q)
            refine r_iload (pc := 270) h dX7_secondsOf_270 rfl ?_
            have hf := Option.some.inj hf
            subst hf
            exact hr 272 _ dX7_secondsOf_272
          · refine r_icmp_le (pc := 262) (tgt := 270) h dX7_secondsOf_262 (by decide) (fun q => absurd q hc11) (fun _ => ?_)
            refine r_iload (pc := 265) h dX7_secondsOf_265 rfl ?_
            refine r_goto (pc := 267) (tgt := 272) h dX7_secondsOf_267 (by decide) ?_
            have hf := Option.some.inj hf
            subst hf
            exact hr 272 _ dX7_secondsOf_272
        · refine r_if_eq (pc := 251) (tgt := 258) h dX7_secondsOf_251 (by decide) (fun q => absurd q hc10) (fun _ => ?_)
          refine r_iconst (pc := 254) (v := (-1)) h dX7_secondsOf_254 (by decide) ?_
          refine r_goto (pc := 255) (tgt := 272) h dX7_secondsOf_255 (by decide) ?_
          have hf := Option.some.inj hf
          subst hf
          exact hr 272 _ dX7_secondsOf_272
      · refine r_if_ne (pc := 246) (tgt := 258) h dX7_secondsOf_246 (by decide) (fun _ => ?_) (fun q => absurd q hc8)
        refine r_iload (pc := 258) h dX7_secondsOf_258 rfl ?_
        refine r_iload (pc := 260) h dX7_secondsOf_260 rfl ?_
        refine p_ite hf (fun hc9 hf => ?_) (fun hc9 hf => ?_)
        · refine r_icmp_le (pc := 262) (tgt := 270) h dX7_secondsOf_262 (by decide) (fun _ => ?_) (fun q => absurd hc9 q)
          refine r_iload (pc := 270) h dX7_secondsOf_270 rfl ?_
          have hf := Option.some.inj hf
          subst hf
          exact hr 272 _ dX7_secondsOf_272
        · refine r_icmp_le (pc := 262) (tgt := 270) h dX7_secondsOf_262 (by decide) (fun q => absurd q hc9) (fun _ => ?_)
          refine r_iload (pc := 265) h dX7_secondsOf_265 rfl ?_
          refine r_goto (pc := 267) (tgt := 272) h dX7_secondsOf_267 (by decide) ?_
          have hf := Option.some.inj hf
          subst hf
          exact hr 272 _ dX7_secondsOf_272
    · refine r_icmp_ge (pc := 135) (tgt := 232) h dX7_secondsOf_135 (by decide) (fun q => absurd q hc6) (fun _ => ?_)
      refine r_aload_n (pc := 138) h dX7_secondsOf_138 rfl ?_
      refine gf_X7_43 (pc := 139) h dX7_secondsOf_139 ?_
      refine r_bipush (pc := 142) (v := 8) h dX7_secondsOf_142 (by decide) ?_
      refine r_iload_n (pc := 144) h dX7_secondsOf_144 rfl ?_
      refine r_imul (pc := 145) h dX7_secondsOf_145 ?_
      refine r_iload (pc := 146) h dX7_secondsOf_146 rfl ?_
      refine r_iadd (pc := 148) h dX7_secondsOf_148 ?_
      refine p_g hf (fun hi12 hf => ?_)
      refine r_iald (pc := 149) (k := 12) (v := (u 12 ((8 * l2) + l8).toNatClampNeg)) h hshM_12 hi12 rfl dX7_secondsOf_149 ?_
      refine r_istore (pc := 150) (L' := [some (.inr 0), none, some (.inl l2), none, some (.inl l4), some (.inl l5), some (.inl l6), some (.inl l7), some (.inl l8), some (.inl (u 12 ((8 * l2) + l8).toNatClampNeg)), none]) h dX7_secondsOf_150 (by decide) rfl ?_
      refine r_aload_n (pc := 152) h dX7_secondsOf_152 rfl ?_
      refine gf_X7_143 (pc := 153) (v := (u 0 27)) h rfl dX7_secondsOf_153 ?_
      refine r_iload (pc := 156) h dX7_secondsOf_156 rfl ?_
      refine p_b hf (fun q13 e14 hf => ?_)
      refine r_cSi (pc := 158) (st := []) h [.inl (u 0 27), .inl l8] cs_X7_has wm_X7_119 (c_X7_has e14) ⟨rfl, rfl, Nat.le_of_ble_eq_true rfl, Nat.le_of_ble_eq_true rfl⟩ (Nat.le_of_ble_eq_true rfl) dX7_secondsOf_158 ?_
      refine p_ite hf (fun hc15 hf => ?_) (fun hc15 hf => ?_)
      · refine r_if_eq (pc := 161) (tgt := 174) h dX7_secondsOf_161 (by decide) (fun _ => ?_) (fun q => absurd hc15 q)
        refine r_iconst (pc := 174) (v := 0) h dX7_secondsOf_174 (by decide) ?_
        exact w_X7_secondsOf_175 h hr (fun u9 x0 x1 x2 x3 x4 x5 e9 => ih u9 x0 x1 x2 x3 x4 x5 e9) _ _ _ _ _ _ _ _ _ hf
      · refine r_if_eq (pc := 161) (tgt := 174) h dX7_secondsOf_161 (by decide) (fun q => absurd q hc15) (fun _ => ?_)
        refine r_aload_n (pc := 164) h dX7_secondsOf_164 rfl ?_
        refine gf_X7_19 (pc := 165) h dX7_secondsOf_165 ?_
        refine r_iload (pc := 168) h dX7_secondsOf_168 rfl ?_
        refine p_g hf (fun hi16 hf => ?_)
        refine r_iald (pc := 170) (k := 4) (v := (u 4 (u 12 ((8 * l2) + l8).toNatClampNeg).toNatClampNeg)) h hshM_4 hi16 rfl dX7_secondsOf_170 ?_
        refine r_goto (pc := 171) (tgt := 175) h dX7_secondsOf_171 (by decide) ?_
        exact w_X7_secondsOf_175 h hr (fun u9 x0 x1 x2 x3 x4 x5 e9 => ih u9 x0 x1 x2 x3 x4 x5 e9) _ _ _ _ _ _ _ _ _ hf
set_option maxRecDepth 100000 in
set_option maxHeartbeats 4000000 in
theorem w_X7_secondsOf_90 {K : Kx} {E : Ex} (h : Ok shM K E RX7 cX7_secondsOf 11 rm_X7_secondsOf) {r : Int32 × St} (hr : RetI shM K E cX7_secondsOf 11 r.1 r.2) {k19 : St → Int32 → Int32 → Int32 → Int32 → Int32 → Int32 → Int32 → Option (Int32 × St)} (hk19 : ∀ (u : St) (l1 l2 l4 l5 l6 l7 l8 : Int32), k19 u l1 l2 l4 l5 l6 l7 l8 = some r → Vd shM K E 11 19 [some (.inr 0), some (.inl l1), some (.inl l2), none, some (.inl l4), some (.inl l5), some (.inl l6), some (.inl l7), some (.inl l8), none, none] [] u) (u : St) (l1 l2 l4 l5 l7 l8 l9 l10 s0 : Int32) (hf : f_X7_secondsOf_90 k19 u l1 l2 l4 l5 l7 l8 l9 l10 s0 = some r) : Vd shM K E 11 90 [some (.inr 0), some (.inl l1), some (.inl l2), none, some (.inl l4), some (.inl l5), none, some (.inl l7), some (.inl l8), some (.inl l9), some (.inl l10)] [.inl s0] u := by
  refine r_istore (pc := 90) (L' := [some (.inr 0), some (.inl l1), some (.inl l2), none, some (.inl l4), some (.inl l5), some (.inl s0), some (.inl l7), some (.inl l8), some (.inl l9), some (.inl l10)]) h dX7_secondsOf_90 (by decide) rfl ?_
  refine r_iload (pc := 92) h dX7_secondsOf_92 rfl ?_
  refine r_iload (pc := 94) h dX7_secondsOf_94 rfl ?_
  refine p_ite hf (fun hc17 hf => ?_) (fun hc17 hf => ?_)
  · refine r_if_le (pc := 96) (tgt := 114) h dX7_secondsOf_96 (by decide) (fun _ => ?_) (fun q => absurd hc17 q)
    refine r_iconst (pc := 114) (v := 0) h dX7_secondsOf_114 (by decide) ?_
    refine r_ior (pc := 115) h dX7_secondsOf_115 ?_
    refine r_istore (pc := 116) (L' := [some (.inr 0), some (.inl l1), some (.inl l2), none, some (.inl l4), some (.inl l5), some (.inl s0), some (.inl (l7 ||| 0)), some (.inl l8), some (.inl l9), some (.inl l10)]) h dX7_secondsOf_116 (by decide) rfl ?_
    refine r_iinc (pc := 118) (v := (l8 + 1)) (L' := [some (.inr 0), some (.inl l1), some (.inl l2), none, some (.inl l4), some (.inl l5), some (.inl s0), some (.inl (l7 ||| 0)), some (.inl (l8 + 1)), some (.inl l9), some (.inl l10)]) h dX7_secondsOf_118 rfl rfl (by decide) rfl ?_
    refine r_goto (pc := 121) (tgt := 19) h dX7_secondsOf_121 (by decide) ?_
    refine r_le [some (.inr 0), some (.inl l1), some (.inl l2), none, some (.inl l4), some (.inl l5), some (.inl s0), some (.inl (l7 ||| 0)), some (.inl (l8 + 1)), none, none] ⟨rfl, ⟨rfl, ⟨rfl, ⟨rfl, ⟨rfl, ⟨rfl, ⟨rfl, ⟨rfl, trivial⟩⟩⟩⟩⟩⟩⟩⟩ ?_
    exact hk19 _ _ _ _ _ _ _ _ hf
  · refine r_if_le (pc := 96) (tgt := 114) h dX7_secondsOf_96 (by decide) (fun q => absurd q hc17) (fun _ => ?_)
    refine r_aload_n (pc := 99) h dX7_secondsOf_99 rfl ?_
    refine gf_X7_7 (pc := 100) h dX7_secondsOf_100 ?_
    refine r_iload (pc := 103) h dX7_secondsOf_103 rfl ?_
    refine p_g hf (fun hi18 hf => ?_)
    refine r_iald (pc := 105) (k := 1) (v := (u 1 l9.toNatClampNeg)) h hshM_1 hi18 rfl dX7_secondsOf_105 ?_
    refine r_iconst (pc := 106) (v := 1) h dX7_secondsOf_106 (by decide) ?_
    refine p_ite hf (fun hc19 hf => ?_) (fun hc19 hf => ?_)
    · refine r_icmp_ne (pc := 107) (tgt := 114) h dX7_secondsOf_107 (by decide) (fun q => absurd hc19 q) (fun _ => ?_)
      refine r_iconst (pc := 110) (v := 1) h dX7_secondsOf_110 (by decide) ?_
      refine r_goto (pc := 111) (tgt := 115) h dX7_secondsOf_111 (by decide) ?_
      refine r_ior (pc := 115) h dX7_secondsOf_115 ?_
      refine r_istore (pc := 116) (L' := [some (.inr 0), some (.inl l1), some (.inl l2), none, some (.inl l4), some (.inl l5), some (.inl s0), some (.inl (l7 ||| 1)), some (.inl l8), some (.inl l9), some (.inl l10)]) h dX7_secondsOf_116 (by decide) rfl ?_
      refine r_iinc (pc := 118) (v := (l8 + 1)) (L' := [some (.inr 0), some (.inl l1), some (.inl l2), none, some (.inl l4), some (.inl l5), some (.inl s0), some (.inl (l7 ||| 1)), some (.inl (l8 + 1)), some (.inl l9), some (.inl l10)]) h dX7_secondsOf_118 rfl rfl (by decide) rfl ?_
      refine r_goto (pc := 121) (tgt := 19) h dX7_secondsOf_121 (by decide) ?_
      refine r_le [some (.inr 0), some (.inl l1), some (.inl l2), none, some (.inl l4), some (.inl l5), some (.inl s0), some (.inl (l7 ||| 1)), some (.inl (l8 + 1)), none, none] ⟨rfl, ⟨rfl, ⟨rfl, ⟨rfl, ⟨rfl, ⟨rfl, ⟨rfl, ⟨rfl, trivial⟩⟩⟩⟩⟩⟩⟩⟩ ?_
      exact hk19 _ _ _ _ _ _ _ _ hf
    · refine r_icmp_ne (pc := 107) (tgt := 114) h dX7_secondsOf_107 (by decide) (fun _ => ?_) (fun q => absurd q hc19)
      refine r_iconst (pc := 114) (v := 0) h dX7_secondsOf_114 (by decide) ?_
      refine r_ior (pc := 115) h dX7_secondsOf_115 ?_
      refine r_istore (pc := 116) (L' := [some (.inr 0), some (.inl l1), some (.inl l2), none, some (.inl l4), some (.inl l5), some (.inl s0), some (.inl (l7 ||| 0)), some (.inl l8), some (.inl l9), some (.inl l10)]) h dX7_secondsOf_116 (by decide) rfl ?_
      refine r_iinc (pc := 118) (v := (l8 + 1)) (L' := [some (.inr 0), some (.inl l1), some (.inl l2), none, some (.inl l4), some (.inl l5), some (.inl s0), some (.inl (l7 ||| 0)), some (.inl (l8 + 1)), some (.inl l9), some (.inl l10)]) h dX7_secondsOf_118 rfl rfl (by decide) rfl ?_
      refine r_goto (pc := 121) (tgt := 19) h dX7_secondsOf_121 (by decide) ?_
      refine r_le [some (.inr 0), some (.inl l1), some (.inl l2), none, some (.inl l4), some (.inl l5), some (.inl s0), some (.inl (l7 ||| 0)), some (.inl (l8 + 1)), none, none] ⟨rfl, ⟨rfl, ⟨rfl, ⟨rfl, ⟨rfl, ⟨rfl, ⟨rfl, ⟨rfl, trivial⟩⟩⟩⟩⟩⟩⟩⟩ ?_
      exact hk19 _ _ _ _ _ _ _ _ hf
set_option maxRecDepth 100000 in
set_option maxHeartbeats 4000000 in
theorem w_X7_secondsOf_67 {K : Kx} {E : Ex} (h : Ok shM K E RX7 cX7_secondsOf 11 rm_X7_secondsOf) {r : Int32 × St} (hr : RetI shM K E cX7_secondsOf 11 r.1 r.2) {k19 : St → Int32 → Int32 → Int32 → Int32 → Int32 → Int32 → Int32 → Option (Int32 × St)} (hk19 : ∀ (u : St) (l1 l2 l4 l5 l6 l7 l8 : Int32), k19 u l1 l2 l4 l5 l6 l7 l8 = some r → Vd shM K E 11 19 [some (.inr 0), some (.inl l1), some (.inl l2), none, some (.inl l4), some (.inl l5), some (.inl l6), some (.inl l7), some (.inl l8), none, none] [] u) (u : St) (l1 l2 l4 l5 l6 l7 l8 l9 s0 : Int32) (hf : f_X7_secondsOf_67 k19 u l1 l2 l4 l5 l6 l7 l8 l9 s0 = some r) : Vd shM K E 11 67 [some (.inr 0), some (.inl l1), some (.inl l2), none, some (.inl l4), some (.inl l5), some (.inl l6), some (.inl l7), some (.inl l8), some (.inl l9), none] [.inl s0] u := by
  refine r_istore (pc := 67) (L' := [some (.inr 0), some (.inl l1), some (.inl l2), none, some (.inl l4), some (.inl l5), some (.inl l6), some (.inl l7), some (.inl l8), some (.inl l9), some (.inl s0)]) h dX7_secondsOf_67 (by decide) rfl ?_
  refine r_iload (pc := 69) h dX7_secondsOf_69 rfl ?_
  refine r_iload (pc := 71) h dX7_secondsOf_71 rfl ?_
  refine r_iadd (pc := 73) h dX7_secondsOf_73 ?_
  refine r_istore (pc := 74) (L' := [some (.inr 0), some (.inl l1), some (.inl l2), none, some (.inl l4), some (.inl (l5 + s0)), some (.inl l6), some (.inl l7), some (.inl l8), some (.inl l9), some (.inl s0)]) h dX7_secondsOf_74 (by decide) rfl ?_
  refine r_iload (pc := 76) h dX7_secondsOf_76 rfl ?_
  refine r_iload (pc := 78) h dX7_secondsOf_78 rfl ?_
  refine p_ite hf (fun hc20 hf => ?_) (fun hc20 hf => ?_)
  · refine r_icmp_le (pc := 80) (tgt := 88) h dX7_secondsOf_80 (by decide) (fun _ => ?_) (fun q => absurd hc20 q)
    refine r_iload (pc := 88) h dX7_secondsOf_88 rfl ?_
    refine r_le [some (.inr 0), some (.inl l1), some (.inl l2), none, some (.inl l4), some (.inl (l5 + s0)), none, some (.inl l7), some (.inl l8), some (.inl l9), some (.inl s0)] ⟨rfl, ⟨rfl, ⟨rfl, ⟨rfl, ⟨rfl, ⟨rfl, ⟨rfl, ⟨rfl, ⟨rfl, trivial⟩⟩⟩⟩⟩⟩⟩⟩⟩ ?_
    exact w_X7_secondsOf_90 h hr hk19 _ _ _ _ _ _ _ _ _ _ hf
  · refine r_icmp_le (pc := 80) (tgt := 88) h dX7_secondsOf_80 (by decide) (fun q => absurd q hc20) (fun _ => ?_)
    refine r_iload (pc := 83) h dX7_secondsOf_83 rfl ?_
    refine r_goto (pc := 85) (tgt := 90) h dX7_secondsOf_85 (by decide) ?_
    refine r_le [some (.inr 0), some (.inl l1), some (.inl l2), none, some (.inl l4), some (.inl (l5 + s0)), none, some (.inl l7), some (.inl l8), some (.inl l9), some (.inl s0)] ⟨rfl, ⟨rfl, ⟨rfl, ⟨rfl, ⟨rfl, ⟨rfl, ⟨rfl, ⟨rfl, ⟨rfl, trivial⟩⟩⟩⟩⟩⟩⟩⟩⟩ ?_
    exact w_X7_secondsOf_90 h hr hk19 _ _ _ _ _ _ _ _ _ _ hf
set_option maxRecDepth 100000 in
set_option maxHeartbeats 4000000 in
theorem w_X7_secondsOf_19 {K : Kx} {E : Ex} (h : Ok shM K E RX7 cX7_secondsOf 11 rm_X7_secondsOf) {r : Int32 × St} (hr : RetI shM K E cX7_secondsOf 11 r.1 r.2) : ∀ (n : Nat) (u : St) (l1 l2 l4 l5 l6 l7 l8 : Int32), f_X7_secondsOf_19 n u l1 l2 l4 l5 l6 l7 l8 = some r → Vd shM K E 11 19 [some (.inr 0), some (.inl l1), some (.inl l2), none, some (.inl l4), some (.inl l5), some (.inl l6), some (.inl l7), some (.inl l8), none, none] [] u := by
  intro n
  induction n with
  | zero => intro u l1 l2 l4 l5 l6 l7 l8 hf; cases hf
  | succ n ih =>
    intro u l1 l2 l4 l5 l6 l7 l8 hf
    refine r_iload (pc := 19) h dX7_secondsOf_19 rfl ?_
    refine r_aload_n (pc := 21) h dX7_secondsOf_21 rfl ?_
    refine gf_X7_40 (pc := 22) h dX7_secondsOf_22 ?_
    refine r_iload_n (pc := 25) h dX7_secondsOf_25 rfl ?_
    refine p_g hf (fun hi21 hf => ?_)
    refine r_iald (pc := 26) (k := 11) (v := (u 11 l1.toNatClampNeg)) h hshM_11 hi21 rfl dX7_secondsOf_26 ?_
    refine p_ite hf (fun hc22 hf => ?_) (fun hc22 hf => ?_)
    · refine r_icmp_ge (pc := 27) (tgt := 124) h dX7_secondsOf_27 (by decide) (fun _ => ?_) (fun q => absurd hc22 q)
      refine r_iconst (pc := 124) (v := 0) h dX7_secondsOf_124 (by decide) ?_
      refine r_istore (pc := 125) (L' := [some (.inr 0), some (.inl l1), some (.inl l2), none, some (.inl l4), some (.inl l5), some (.inl l6), some (.inl l7), some (.inl 0), none, none]) h dX7_secondsOf_125 (by decide) rfl ?_
      refine r_le [some (.inr 0), none, some (.inl l2), none, some (.inl l4), some (.inl l5), some (.inl l6), some (.inl l7), some (.inl 0), none, none] ⟨rfl, ⟨rfl, ⟨rfl, ⟨rfl, ⟨rfl, ⟨rfl, ⟨rfl, trivial⟩⟩⟩⟩⟩⟩⟩ ?_
      exact w_X7_secondsOf_127 h hr FU _ _ _ _ _ _ _ hf
    · refine r_icmp_ge (pc := 27) (tgt := 124) h dX7_secondsOf_27 (by decide) (fun q => absurd q hc22) (fun _ => ?_)
      refine r_aload_n (pc := 30) h dX7_secondsOf_30 rfl ?_
      refine gf_X7_43 (pc := 31) h dX7_secondsOf_31 ?_
      refine r_bipush (pc := 34) (v := 8) h dX7_secondsOf_34 (by decide) ?_
      refine r_iload_n (pc := 36) h dX7_secondsOf_36 rfl ?_
      refine r_imul (pc := 37) h dX7_secondsOf_37 ?_
      refine r_iload (pc := 38) h dX7_secondsOf_38 rfl ?_
      refine r_iadd (pc := 40) h dX7_secondsOf_40 ?_
      refine p_g hf (fun hi23 hf => ?_)
      refine r_iald (pc := 41) (k := 12) (v := (u 12 ((8 * l1) + l8).toNatClampNeg)) h hshM_12 hi23 rfl dX7_secondsOf_41 ?_
      refine r_istore (pc := 42) (L' := [some (.inr 0), some (.inl l1), some (.inl l2), none, some (.inl l4), some (.inl l5), some (.inl l6), some (.inl l7), some (.inl l8), some (.inl (u 12 ((8 * l1) + l8).toNatClampNeg)), none]) h dX7_secondsOf_42 (by decide) rfl ?_
      refine r_aload_n (pc := 44) h dX7_secondsOf_44 rfl ?_
      refine gf_X7_133 (pc := 45) (v := (u 0 26)) h rfl dX7_secondsOf_45 ?_
      refine r_iload (pc := 48) h dX7_secondsOf_48 rfl ?_
      refine p_b hf (fun q24 e25 hf => ?_)
      refine r_cSi (pc := 50) (st := []) h [.inl (u 0 26), .inl l8] cs_X7_has wm_X7_119 (c_X7_has e25) ⟨rfl, rfl, Nat.le_of_ble_eq_true rfl, Nat.le_of_ble_eq_true rfl⟩ (Nat.le_of_ble_eq_true rfl) dX7_secondsOf_50 ?_
      refine p_ite hf (fun hc26 hf => ?_) (fun hc26 hf => ?_)
      · refine r_if_eq (pc := 53) (tgt := 66) h dX7_secondsOf_53 (by decide) (fun _ => ?_) (fun q => absurd hc26 q)
        refine r_iconst (pc := 66) (v := 0) h dX7_secondsOf_66 (by decide) ?_
        exact w_X7_secondsOf_67 h hr (fun u9 x0 x1 x2 x3 x4 x5 x6 e9 => ih u9 x0 x1 x2 x3 x4 x5 x6 e9) _ _ _ _ _ _ _ _ _ _ hf
      · refine r_if_eq (pc := 53) (tgt := 66) h dX7_secondsOf_53 (by decide) (fun q => absurd q hc26) (fun _ => ?_)
        refine r_aload_n (pc := 56) h dX7_secondsOf_56 rfl ?_
        refine gf_X7_22 (pc := 57) h dX7_secondsOf_57 ?_
        refine r_iload (pc := 60) h dX7_secondsOf_60 rfl ?_
        refine p_g hf (fun hi27 hf => ?_)
        refine r_iald (pc := 62) (k := 5) (v := (u 5 (u 12 ((8 * l1) + l8).toNatClampNeg).toNatClampNeg)) h hshM_5 hi27 rfl dX7_secondsOf_62 ?_
        refine r_goto (pc := 63) (tgt := 67) h dX7_secondsOf_63 (by decide) ?_
        exact w_X7_secondsOf_67 h hr (fun u9 x0 x1 x2 x3 x4 x5 x6 e9 => ih u9 x0 x1 x2 x3 x4 x5 x6 e9) _ _ _ _ _ _ _ _ _ _ hf
set_option maxRecDepth 100000 in
set_option maxHeartbeats 4000000 in
theorem w_X7_secondsOf_0 {K : Kx} {E : Ex} (h : Ok shM K E RX7 cX7_secondsOf 11 rm_X7_secondsOf) {r : Int32 × St} (hr : RetI shM K E cX7_secondsOf 11 r.1 r.2) (u : St) (l1 l2 l3 l4 : Int32) (hf : f_X7_secondsOf u l1 l2 l3 l4 = some r) : Vd shM K E 11 0 [some (.inr 0), some (.inl l1), some (.inl l2), some (.inl l3), some (.inl l4), none, none, none, none, none, none] [] u := by
  refine r_aload_n (pc := 0) h dX7_secondsOf_0 rfl ?_
  refine r_iload_n (pc := 1) h dX7_secondsOf_1 rfl ?_
  refine r_iload_n (pc := 2) h dX7_secondsOf_2 rfl ?_
  refine r_iload_n (pc := 3) h dX7_secondsOf_3 rfl ?_
  refine p_b hf (fun q28 e29 hf => ?_)
  refine r_cVv (pc := 4) (k := 0) (st := []) h [.inl l1, .inl l2, .inl l3] cv_X7_tell wm_X7_146 (c_X7_tell e29) ⟨rfl, rfl, Nat.le_of_ble_eq_true rfl, Nat.le_of_ble_eq_true rfl⟩ hshM_0 rfl rfl (Nat.le_of_ble_eq_true rfl) dX7_secondsOf_4 ?_
  refine r_iconst (pc := 7) (v := 0) h dX7_secondsOf_7 (by decide) ?_
  refine r_istore (pc := 8) (L' := [some (.inr 0), some (.inl l1), some (.inl l2), some (.inl l3), some (.inl l4), some (.inl 0), none, none, none, none, none]) h dX7_secondsOf_8 (by decide) rfl ?_
  refine r_iconst (pc := 10) (v := 0) h dX7_secondsOf_10 (by decide) ?_
  refine r_istore (pc := 11) (L' := [some (.inr 0), some (.inl l1), some (.inl l2), some (.inl l3), some (.inl l4), some (.inl 0), some (.inl 0), none, none, none, none]) h dX7_secondsOf_11 (by decide) rfl ?_
  refine r_iconst (pc := 13) (v := 0) h dX7_secondsOf_13 (by decide) ?_
  refine r_istore (pc := 14) (L' := [some (.inr 0), some (.inl l1), some (.inl l2), some (.inl l3), some (.inl l4), some (.inl 0), some (.inl 0), some (.inl 0), none, none, none]) h dX7_secondsOf_14 (by decide) rfl ?_
  refine r_iconst (pc := 16) (v := 0) h dX7_secondsOf_16 (by decide) ?_
  refine r_istore (pc := 17) (L' := [some (.inr 0), some (.inl l1), some (.inl l2), some (.inl l3), some (.inl l4), some (.inl 0), some (.inl 0), some (.inl 0), some (.inl 0), none, none]) h dX7_secondsOf_17 (by decide) rfl ?_
  refine r_le [some (.inr 0), some (.inl l1), some (.inl l2), none, some (.inl l4), some (.inl 0), some (.inl 0), some (.inl 0), some (.inl 0), none, none] ⟨rfl, ⟨rfl, ⟨rfl, ⟨rfl, ⟨rfl, ⟨rfl, ⟨rfl, ⟨rfl, trivial⟩⟩⟩⟩⟩⟩⟩⟩ ?_
  exact w_X7_secondsOf_19 h hr FU _ _ _ _ _ _ _ _ hf
theorem c_X7_secondsOf {u : St} {l1 l2 l3 l4 : Int32} {r : Int32 × St} (hf : f_X7_secondsOf u l1 l2 l3 l4 = some r) : CtI shM yX7_secondsOf cX7_secondsOf 11 (some .int) rm_X7_secondsOf [.inr 0, .inl l1, .inl l2, .inl l3, .inl l4] u r.1 r.2 := ct_I (by decide +kernel) (Nat.le_of_ble_eq_true rfl) (fun K E h hr => w_X7_secondsOf_0 h hr _ _ _ _ _ hf)
set_option maxRecDepth 100000 in
set_option maxHeartbeats 4000000 in
theorem w_X7_seconds_0 {K : Kx} {E : Ex} (h : Ok shM K E RX7 cX7_seconds 6 rm_X7_seconds) {r : Int32 × St} (hr : RetI shM K E cX7_seconds 6 r.1 r.2) (u : St) (l1 l2 l3 l4 : Int32) (hf : f_X7_seconds u l1 l2 l3 l4 = some r) : Vd shM K E 6 0 [some (.inr 0), some (.inl l1), some (.inl l2), some (.inl l3), some (.inl l4), none] [] u := by
  refine r_aload_n (pc := 0) h dX7_seconds_0 rfl ?_
  refine r_iload_n (pc := 1) h dX7_seconds_1 rfl ?_
  refine r_iload_n (pc := 2) h dX7_seconds_2 rfl ?_
  refine r_iload_n (pc := 3) h dX7_seconds_3 rfl ?_
  refine p_b hf (fun q1 e2 hf => ?_)
  refine r_cVi (pc := 4) (k := 0) (st := []) h [.inl l1, .inl l2, .inl l3] cv_X7_isChange wm_X7_127 (c_X7_isChange e2) ⟨rfl, rfl, Nat.le_of_ble_eq_true rfl, Nat.le_of_ble_eq_true rfl⟩ hshM_0 rfl rfl (Nat.le_of_ble_eq_true rfl) dX7_seconds_4 ?_
  refine p_ite hf (fun hc3 hf => ?_) (fun hc3 hf => ?_)
  · refine r_if_eq (pc := 7) (tgt := 20) h dX7_seconds_7 (by decide) (fun _ => ?_) (fun q => absurd hc3 q)
    refine r_aload_n (pc := 20) h dX7_seconds_20 rfl ?_
    refine r_iconst (pc := 21) (v := 1) h dX7_seconds_21 (by decide) ?_
    refine p_b hf (fun q4 e5 hf => ?_)
    refine r_cVi (pc := 22) (k := 0) (st := []) h [.inl 1] cv_X7_finding wm_X7_104 (c_X7_finding e5) ⟨rfl, rfl, Nat.le_of_ble_eq_true rfl, Nat.le_of_ble_eq_true rfl⟩ hshM_0 rfl rfl (Nat.le_of_ble_eq_true rfl) dX7_seconds_22 ?_
    have hf := Option.some.inj hf
    subst hf
    exact hr 25 _ dX7_seconds_25
  · refine r_if_eq (pc := 7) (tgt := 20) h dX7_seconds_7 (by decide) (fun q => absurd q hc3) (fun _ => ?_)
    refine r_iload (pc := 10) h dX7_seconds_10 rfl ?_
    refine r_iconst (pc := 12) (v := 0) h dX7_seconds_12 (by decide) ?_
    refine r_iconst (pc := 13) (v := 3) h dX7_seconds_13 (by decide) ?_
    refine p_b hf (fun q6 e7 hf => ?_)
    refine r_cSi (pc := 14) (st := []) h [.inl l4, .inl 0, .inl 3] cs_X7_isIn wm_X7_100 (c_X7_isIn e7) ⟨rfl, rfl, Nat.le_of_ble_eq_true rfl, Nat.le_of_ble_eq_true rfl⟩ (Nat.le_of_ble_eq_true rfl) dX7_seconds_14 ?_
    refine p_ite hf (fun hc8 hf => ?_) (fun hc8 hf => ?_)
    · refine r_if_ne (pc := 17) (tgt := 26) h dX7_seconds_17 (by decide) (fun q => absurd hc8 q) (fun _ => ?_)
      refine r_aload_n (pc := 20) h dX7_seconds_20 rfl ?_
      refine r_iconst (pc := 21) (v := 1) h dX7_seconds_21 (by decide) ?_
      refine p_b hf (fun q19 e20 hf => ?_)
      refine r_cVi (pc := 22) (k := 0) (st := []) h [.inl 1] cv_X7_finding wm_X7_104 (c_X7_finding e20) ⟨rfl, rfl, Nat.le_of_ble_eq_true rfl, Nat.le_of_ble_eq_true rfl⟩ hshM_0 rfl rfl (Nat.le_of_ble_eq_true rfl) dX7_seconds_22 ?_
      have hf := Option.some.inj hf
      subst hf
      exact hr 25 _ dX7_seconds_25
    · refine r_if_ne (pc := 17) (tgt := 26) h dX7_seconds_17 (by decide) (fun _ => ?_) (fun q => absurd q hc8)
      refine r_aload_n (pc := 26) h dX7_seconds_26 rfl ?_
      refine r_iload_n (pc := 27) h dX7_seconds_27 rfl ?_
      refine r_iload_n (pc := 28) h dX7_seconds_28 rfl ?_
      refine r_iload_n (pc := 29) h dX7_seconds_29 rfl ?_
      refine p_b hf (fun q9 e10 hf => ?_)
      refine r_cVi (pc := 30) (k := 0) (st := []) h [.inl l1, .inl l2, .inl l3] cv_X7_isAllowed wm_X7_130 (c_X7_isAllowed e10) ⟨rfl, rfl, Nat.le_of_ble_eq_true rfl, Nat.le_of_ble_eq_true rfl⟩ hshM_0 rfl rfl (Nat.le_of_ble_eq_true rfl) dX7_seconds_30 ?_
      refine p_ite hf (fun hc11 hf => ?_) (fun hc11 hf => ?_)
      · refine r_if_ne (pc := 33) (tgt := 42) h dX7_seconds_33 (by decide) (fun q => absurd hc11 q) (fun _ => ?_)
        refine r_aload_n (pc := 36) h dX7_seconds_36 rfl ?_
        refine r_iconst (pc := 37) (v := 3) h dX7_seconds_37 (by decide) ?_
        refine p_b hf (fun q17 e18 hf => ?_)
        refine r_cVi (pc := 38) (k := 0) (st := []) h [.inl 3] cv_X7_finding wm_X7_104 (c_X7_finding e18) ⟨rfl, rfl, Nat.le_of_ble_eq_true rfl, Nat.le_of_ble_eq_true rfl⟩ hshM_0 rfl rfl (Nat.le_of_ble_eq_true rfl) dX7_seconds_38 ?_
        have hf := Option.some.inj hf
        subst hf
        exact hr 41 _ dX7_seconds_41
      · refine r_if_ne (pc := 33) (tgt := 42) h dX7_seconds_33 (by decide) (fun _ => ?_) (fun q => absurd q hc11)
        refine r_aload_n (pc := 42) h dX7_seconds_42 rfl ?_
        refine r_iload_n (pc := 43) h dX7_seconds_43 rfl ?_
        refine r_iload_n (pc := 44) h dX7_seconds_44 rfl ?_
        refine r_iload_n (pc := 45) h dX7_seconds_45 rfl ?_
        refine r_iload (pc := 46) h dX7_seconds_46 rfl ?_
        refine p_b hf (fun q12 e13 hf => ?_)
        refine r_cVi (pc := 48) (k := 0) (st := []) h [.inl l1, .inl l2, .inl l3, .inl l4] cv_X7_secondsOf wm_X7_153 (c_X7_secondsOf e13) ⟨rfl, rfl, Nat.le_of_ble_eq_true rfl, Nat.le_of_ble_eq_true rfl⟩ hshM_0 rfl rfl (Nat.le_of_ble_eq_true rfl) dX7_seconds_48 ?_
        refine r_istore (pc := 51) (L' := [some (.inr 0), some (.inl l1), some (.inl l2), some (.inl l3), some (.inl l4), some (.inl q12.1)]) h dX7_seconds_51 (by decide) rfl ?_
        refine r_iload (pc := 53) h dX7_seconds_53 rfl ?_
        refine p_ite hf (fun hc14 hf => ?_) (fun hc14 hf => ?_)
        · refine r_if_ge (pc := 55) (tgt := 66) h dX7_seconds_55 (by decide) (fun _ => ?_) (fun q => absurd hc14 q)
          refine r_iload (pc := 66) h dX7_seconds_66 rfl ?_
          have hf := Option.some.inj hf
          subst hf
          exact hr 68 _ dX7_seconds_68
        · refine r_if_ge (pc := 55) (tgt := 66) h dX7_seconds_55 (by decide) (fun q => absurd q hc14) (fun _ => ?_)
          refine r_aload_n (pc := 58) h dX7_seconds_58 rfl ?_
          refine r_iconst (pc := 59) (v := 2) h dX7_seconds_59 (by decide) ?_
          refine p_b hf (fun q15 e16 hf => ?_)
          refine r_cVi (pc := 60) (k := 0) (st := []) h [.inl 2] cv_X7_finding wm_X7_104 (c_X7_finding e16) ⟨rfl, rfl, Nat.le_of_ble_eq_true rfl, Nat.le_of_ble_eq_true rfl⟩ hshM_0 rfl rfl (Nat.le_of_ble_eq_true rfl) dX7_seconds_60 ?_
          refine r_goto (pc := 63) (tgt := 68) h dX7_seconds_63 (by decide) ?_
          have hf := Option.some.inj hf
          subst hf
          exact hr 68 _ dX7_seconds_68
theorem c_X7_seconds {u : St} {l1 l2 l3 l4 : Int32} {r : Int32 × St} (hf : f_X7_seconds u l1 l2 l3 l4 = some r) : CtI shM yX7_seconds cX7_seconds 6 (some .int) rm_X7_seconds [.inr 0, .inl l1, .inl l2, .inl l3, .inl l4] u r.1 r.2 := ct_I (by decide +kernel) (Nat.le_of_ble_eq_true rfl) (fun K E h hr => w_X7_seconds_0 h hr _ _ _ _ _ hf)
set_option maxRecDepth 100000 in
set_option maxHeartbeats 4000000 in
theorem w_X7_bestOf_48 {K : Kx} {E : Ex} (h : Ok shM K E RX7 cX7_bestOf 7 rm_X7_bestOf) {r : Int32 × St} (hr : RetI shM K E cX7_bestOf 7 r.1 r.2) {k11 : St → Int32 → Int32 → Int32 → Int32 → Int32 → Option (Int32 × St)} (hk11 : ∀ (u : St) (l1 l2 l3 l4 l5 : Int32), k11 u l1 l2 l3 l4 l5 = some r → Vd shM K E 7 11 [some (.inr 0), some (.inl l1), some (.inl l2), some (.inl l3), some (.inl l4), some (.inl l5), none] [] u) (u : St) (l1 l2 l3 l4 l5 s0 : Int32) (hf : f_X7_bestOf_48 k11 u l1 l2 l3 l4 l5 s0 = some r) : Vd shM K E 7 48 [some (.inr 0), some (.inl l1), some (.inl l2), some (.inl l3), some (.inl l4), some (.inl l5), none] [.inl s0] u := by
  refine r_istore (pc := 48) (L' := [some (.inr 0), some (.inl l1), some (.inl l2), some (.inl l3), some (.inl l4), some (.inl l5), some (.inl s0)]) h dX7_bestOf_48 (by decide) rfl ?_
  refine r_iload (pc := 50) h dX7_bestOf_50 rfl ?_
  refine p_ite hf (fun hc1 hf => ?_) (fun hc1 hf => ?_)
  · refine r_if_lt (pc := 52) (tgt := 99) h dX7_bestOf_52 (by decide) (fun _ => ?_) (fun q => absurd hc1 q)
    refine r_iinc (pc := 99) (v := (l5 + 1)) (L' := [some (.inr 0), some (.inl l1), some (.inl l2), some (.inl l3), some (.inl l4), some (.inl (l5 + 1)), some (.inl s0)]) h dX7_bestOf_99 rfl rfl (by decide) rfl ?_
    refine r_goto (pc := 102) (tgt := 11) h dX7_bestOf_102 (by decide) ?_
    refine r_le [some (.inr 0), some (.inl l1), some (.inl l2), some (.inl l3), some (.inl l4), some (.inl (l5 + 1)), none] ⟨rfl, ⟨rfl, ⟨rfl, ⟨rfl, ⟨rfl, ⟨rfl, trivial⟩⟩⟩⟩⟩⟩ ?_
    exact hk11 _ _ _ _ _ _ hf
  · refine r_if_lt (pc := 52) (tgt := 99) h dX7_bestOf_52 (by decide) (fun q => absurd q hc1) (fun _ => ?_)
    refine r_iload (pc := 55) h dX7_bestOf_55 rfl ?_
    refine p_ite hf (fun hc2 hf => ?_) (fun hc2 hf => ?_)
    · refine r_if_lt (pc := 57) (tgt := 89) h dX7_bestOf_57 (by decide) (fun _ => ?_) (fun q => absurd hc2 q)
      refine r_iload (pc := 89) h dX7_bestOf_89 rfl ?_
      refine r_istore (pc := 91) (L' := [some (.inr 0), some (.inl l1), some (.inl l2), some (.inl l3), some (.inl s0), some (.inl l5), some (.inl s0)]) h dX7_bestOf_91 (by decide) rfl ?_
      refine r_aload_n (pc := 93) h dX7_bestOf_93 rfl ?_
      refine r_iload (pc := 94) h dX7_bestOf_94 rfl ?_
      refine pf_X7_156 (pc := 96) h dX7_bestOf_96 ?_
      refine r_iinc (pc := 99) (v := (l5 + 1)) (L' := [some (.inr 0), some (.inl l1), some (.inl l2), some (.inl l3), some (.inl s0), some (.inl (l5 + 1)), some (.inl s0)]) h dX7_bestOf_99 rfl rfl (by decide) rfl ?_
      refine r_goto (pc := 102) (tgt := 11) h dX7_bestOf_102 (by decide) ?_
      refine r_le [some (.inr 0), some (.inl l1), some (.inl l2), some (.inl l3), some (.inl s0), some (.inl (l5 + 1)), none] ⟨rfl, ⟨rfl, ⟨rfl, ⟨rfl, ⟨rfl, ⟨rfl, trivial⟩⟩⟩⟩⟩⟩ ?_
      exact hk11 _ _ _ _ _ _ hf
    · refine r_if_lt (pc := 57) (tgt := 89) h dX7_bestOf_57 (by decide) (fun q => absurd q hc2) (fun _ => ?_)
      refine r_iload (pc := 60) h dX7_bestOf_60 rfl ?_
      refine r_iload (pc := 62) h dX7_bestOf_62 rfl ?_
      refine p_ite hf (fun hc3 hf => ?_) (fun hc3 hf => ?_)
      · refine r_icmp_lt (pc := 64) (tgt := 89) h dX7_bestOf_64 (by decide) (fun _ => ?_) (fun q => absurd hc3 q)
        refine r_iload (pc := 89) h dX7_bestOf_89 rfl ?_
        refine r_istore (pc := 91) (L' := [some (.inr 0), some (.inl l1), some (.inl l2), some (.inl l3), some (.inl s0), some (.inl l5), some (.inl s0)]) h dX7_bestOf_91 (by decide) rfl ?_
        refine r_aload_n (pc := 93) h dX7_bestOf_93 rfl ?_
        refine r_iload (pc := 94) h dX7_bestOf_94 rfl ?_
        refine pf_X7_156 (pc := 96) h dX7_bestOf_96 ?_
        refine r_iinc (pc := 99) (v := (l5 + 1)) (L' := [some (.inr 0), some (.inl l1), some (.inl l2), some (.inl l3), some (.inl s0), some (.inl (l5 + 1)), some (.inl s0)]) h dX7_bestOf_99 rfl rfl (by decide) rfl ?_
        refine r_goto (pc := 102) (tgt := 11) h dX7_bestOf_102 (by decide) ?_
        refine r_le [some (.inr 0), some (.inl l1), some (.inl l2), some (.inl l3), some (.inl s0), some (.inl (l5 + 1)), none] ⟨rfl, ⟨rfl, ⟨rfl, ⟨rfl, ⟨rfl, ⟨rfl, trivial⟩⟩⟩⟩⟩⟩ ?_
        exact hk11 _ _ _ _ _ _ hf
      · refine r_icmp_lt (pc := 64) (tgt := 89) h dX7_bestOf_64 (by decide) (fun q => absurd q hc3) (fun _ => ?_)
        refine r_iload (pc := 67) h dX7_bestOf_67 rfl ?_
        refine r_iload (pc := 69) h dX7_bestOf_69 rfl ?_
        refine p_ite hf (fun hc4 hf => ?_) (fun hc4 hf => ?_)
        · refine r_icmp_ne (pc := 71) (tgt := 99) h dX7_bestOf_71 (by decide) (fun q => absurd hc4 q) (fun _ => ?_)
          refine r_iload (pc := 74) h dX7_bestOf_74 rfl ?_
          refine p_b hf (fun q5 e6 hf => ?_)
          refine r_cSi (pc := 76) (st := []) h [.inl l5] cs_X7_countOf wm_X7_150 (c_X7_countOf e6) ⟨rfl, rfl, Nat.le_of_ble_eq_true rfl, Nat.le_of_ble_eq_true rfl⟩ (Nat.le_of_ble_eq_true rfl) dX7_bestOf_76 ?_
          refine r_aload_n (pc := 79) h dX7_bestOf_79 rfl ?_
          refine gf_X7_156 (pc := 80) (v := (u 0 28)) h rfl dX7_bestOf_80 ?_
          refine p_b hf (fun q7 e8 hf => ?_)
          refine r_cSi (pc := 83) (st := [.inl q5]) h [.inl (u 0 28)] cs_X7_countOf wm_X7_150 (c_X7_countOf e8) ⟨rfl, rfl, Nat.le_of_ble_eq_true rfl, Nat.le_of_ble_eq_true rfl⟩ (Nat.le_of_ble_eq_true rfl) dX7_bestOf_83 ?_
          refine p_ite hf (fun hc9 hf => ?_) (fun hc9 hf => ?_)
          · refine r_icmp_ge (pc := 86) (tgt := 99) h dX7_bestOf_86 (by decide) (fun _ => ?_) (fun q => absurd hc9 q)
            refine r_iinc (pc := 99) (v := (l5 + 1)) (L' := [some (.inr 0), some (.inl l1), some (.inl l2), some (.inl l3), some (.inl l4), some (.inl (l5 + 1)), some (.inl s0)]) h dX7_bestOf_99 rfl rfl (by decide) rfl ?_
            refine r_goto (pc := 102) (tgt := 11) h dX7_bestOf_102 (by decide) ?_
            refine r_le [some (.inr 0), some (.inl l1), some (.inl l2), some (.inl l3), some (.inl l4), some (.inl (l5 + 1)), none] ⟨rfl, ⟨rfl, ⟨rfl, ⟨rfl, ⟨rfl, ⟨rfl, trivial⟩⟩⟩⟩⟩⟩ ?_
            exact hk11 _ _ _ _ _ _ hf
          · refine r_icmp_ge (pc := 86) (tgt := 99) h dX7_bestOf_86 (by decide) (fun q => absurd q hc9) (fun _ => ?_)
            refine r_iload (pc := 89) h dX7_bestOf_89 rfl ?_
            refine r_istore (pc := 91) (L' := [some (.inr 0), some (.inl l1), some (.inl l2), some (.inl l3), some (.inl s0), some (.inl l5), some (.inl s0)]) h dX7_bestOf_91 (by decide) rfl ?_
            refine r_aload_n (pc := 93) h dX7_bestOf_93 rfl ?_
            refine r_iload (pc := 94) h dX7_bestOf_94 rfl ?_
            refine pf_X7_156 (pc := 96) h dX7_bestOf_96 ?_
            refine r_iinc (pc := 99) (v := (l5 + 1)) (L' := [some (.inr 0), some (.inl l1), some (.inl l2), some (.inl l3), some (.inl s0), some (.inl (l5 + 1)), some (.inl s0)]) h dX7_bestOf_99 rfl rfl (by decide) rfl ?_
            refine r_goto (pc := 102) (tgt := 11) h dX7_bestOf_102 (by decide) ?_
            refine r_le [some (.inr 0), some (.inl l1), some (.inl l2), some (.inl l3), some (.inl s0), some (.inl (l5 + 1)), none] ⟨rfl, ⟨rfl, ⟨rfl, ⟨rfl, ⟨rfl, ⟨rfl, trivial⟩⟩⟩⟩⟩⟩ ?_
            exact hk11 _ _ _ _ _ _ hf
        · refine r_icmp_ne (pc := 71) (tgt := 99) h dX7_bestOf_71 (by decide) (fun _ => ?_) (fun q => absurd q hc4)
          refine r_iinc (pc := 99) (v := (l5 + 1)) (L' := [some (.inr 0), some (.inl l1), some (.inl l2), some (.inl l3), some (.inl l4), some (.inl (l5 + 1)), some (.inl s0)]) h dX7_bestOf_99 rfl rfl (by decide) rfl ?_
          refine r_goto (pc := 102) (tgt := 11) h dX7_bestOf_102 (by decide) ?_
          refine r_le [some (.inr 0), some (.inl l1), some (.inl l2), some (.inl l3), some (.inl l4), some (.inl (l5 + 1)), none] ⟨rfl, ⟨rfl, ⟨rfl, ⟨rfl, ⟨rfl, ⟨rfl, trivial⟩⟩⟩⟩⟩⟩ ?_
          exact hk11 _ _ _ _ _ _ hf
set_option maxRecDepth 100000 in
set_option maxHeartbeats 4000000 in
theorem w_X7_bestOf_11 {K : Kx} {E : Ex} (h : Ok shM K E RX7 cX7_bestOf 7 rm_X7_bestOf) {r : Int32 × St} (hr : RetI shM K E cX7_bestOf 7 r.1 r.2) : ∀ (n : Nat) (u : St) (l1 l2 l3 l4 l5 : Int32), f_X7_bestOf_11 n u l1 l2 l3 l4 l5 = some r → Vd shM K E 7 11 [some (.inr 0), some (.inl l1), some (.inl l2), some (.inl l3), some (.inl l4), some (.inl l5), none] [] u := by
  intro n
  induction n with
  | zero => intro u l1 l2 l3 l4 l5 hf; cases hf
  | succ n ih =>
    intro u l1 l2 l3 l4 l5 hf
    refine r_iload (pc := 11) h dX7_bestOf_11 rfl ?_
    refine r_iconst (pc := 13) (v := 1) h dX7_bestOf_13 (by decide) ?_
    refine r_aload_n (pc := 14) h dX7_bestOf_14 rfl ?_
    refine gf_X7_40 (pc := 15) h dX7_bestOf_15 ?_
    refine r_iload_n (pc := 18) h dX7_bestOf_18 rfl ?_
    refine p_g hf (fun hi10 hf => ?_)
    refine r_iald (pc := 19) (k := 11) (v := (u 11 l2.toNatClampNeg)) h hshM_11 hi10 rfl dX7_bestOf_19 ?_
    refine r_ishl (pc := 20) h dX7_bestOf_20 ?_
    refine p_ite hf (fun hc11 hf => ?_) (fun hc11 hf => ?_)
    · refine r_icmp_ge (pc := 21) (tgt := 105) h dX7_bestOf_21 (by decide) (fun _ => ?_) (fun q => absurd hc11 q)
      refine r_iload (pc := 105) h dX7_bestOf_105 rfl ?_
      have hf := Option.some.inj hf
      subst hf
      exact hr 107 _ dX7_bestOf_107
    · refine r_icmp_ge (pc := 21) (tgt := 105) h dX7_bestOf_21 (by decide) (fun q => absurd q hc11) (fun _ => ?_)
      refine r_aload_n (pc := 24) h dX7_bestOf_24 rfl ?_
      refine r_iload_n (pc := 25) h dX7_bestOf_25 rfl ?_
      refine r_iload_n (pc := 26) h dX7_bestOf_26 rfl ?_
      refine r_iload (pc := 27) h dX7_bestOf_27 rfl ?_
      refine p_b hf (fun q12 e13 hf => ?_)
      refine r_cVi (pc := 29) (k := 0) (st := []) h [.inl l1, .inl l2, .inl l5] cv_X7_isAllowed wm_X7_130 (c_X7_isAllowed e13) ⟨rfl, rfl, Nat.le_of_ble_eq_true rfl, Nat.le_of_ble_eq_true rfl⟩ hshM_0 rfl rfl (Nat.le_of_ble_eq_true rfl) dX7_bestOf_29 ?_
      refine p_ite hf (fun hc14 hf => ?_) (fun hc14 hf => ?_)
      · refine r_if_eq (pc := 32) (tgt := 47) h dX7_bestOf_32 (by decide) (fun _ => ?_) (fun q => absurd hc14 q)
        refine r_iconst (pc := 47) (v := (-1)) h dX7_bestOf_47 (by decide) ?_
        exact w_X7_bestOf_48 h hr (fun u9 x0 x1 x2 x3 x4 e9 => ih u9 x0 x1 x2 x3 x4 e9) _ _ _ _ _ _ _ hf
      · refine r_if_eq (pc := 32) (tgt := 47) h dX7_bestOf_32 (by decide) (fun q => absurd q hc14) (fun _ => ?_)
        refine r_aload_n (pc := 35) h dX7_bestOf_35 rfl ?_
        refine r_iload_n (pc := 36) h dX7_bestOf_36 rfl ?_
        refine r_iload_n (pc := 37) h dX7_bestOf_37 rfl ?_
        refine r_iload (pc := 38) h dX7_bestOf_38 rfl ?_
        refine r_iload_n (pc := 40) h dX7_bestOf_40 rfl ?_
        refine p_b hf (fun q15 e16 hf => ?_)
        refine r_cVi (pc := 41) (k := 0) (st := []) h [.inl l1, .inl l2, .inl l5, .inl l3] cv_X7_secondsOf wm_X7_153 (c_X7_secondsOf e16) ⟨rfl, rfl, Nat.le_of_ble_eq_true rfl, Nat.le_of_ble_eq_true rfl⟩ hshM_0 rfl rfl (Nat.le_of_ble_eq_true rfl) dX7_bestOf_41 ?_
        refine r_goto (pc := 44) (tgt := 48) h dX7_bestOf_44 (by decide) ?_
        exact w_X7_bestOf_48 h hr (fun u9 x0 x1 x2 x3 x4 e9 => ih u9 x0 x1 x2 x3 x4 e9) _ _ _ _ _ _ _ hf
set_option maxRecDepth 100000 in
set_option maxHeartbeats 4000000 in
theorem w_X7_bestOf_0 {K : Kx} {E : Ex} (h : Ok shM K E RX7 cX7_bestOf 7 rm_X7_bestOf) {r : Int32 × St} (hr : RetI shM K E cX7_bestOf 7 r.1 r.2) (u : St) (l1 l2 l3 : Int32) (hf : f_X7_bestOf u l1 l2 l3 = some r) : Vd shM K E 7 0 [some (.inr 0), some (.inl l1), some (.inl l2), some (.inl l3), none, none, none] [] u := by
  refine r_iconst (pc := 0) (v := (-1)) h dX7_bestOf_0 (by decide) ?_
  refine r_istore (pc := 1) (L' := [some (.inr 0), some (.inl l1), some (.inl l2), some (.inl l3), some (.inl (-1)), none, none]) h dX7_bestOf_1 (by decide) rfl ?_
  refine r_aload_n (pc := 3) h dX7_bestOf_3 rfl ?_
  refine r_iconst (pc := 4) (v := 0) h dX7_bestOf_4 (by decide) ?_
  refine pf_X7_156 (pc := 5) h dX7_bestOf_5 ?_
  refine r_iconst (pc := 8) (v := 0) h dX7_bestOf_8 (by decide) ?_
  refine r_istore (pc := 9) (L' := [some (.inr 0), some (.inl l1), some (.inl l2), some (.inl l3), some (.inl (-1)), some (.inl 0), none]) h dX7_bestOf_9 (by decide) rfl ?_
  exact w_X7_bestOf_11 h hr FU _ _ _ _ _ _ hf
theorem c_X7_bestOf {u : St} {l1 l2 l3 : Int32} {r : Int32 × St} (hf : f_X7_bestOf u l1 l2 l3 = some r) : CtI shM yX7_bestOf cX7_bestOf 7 (some .int) rm_X7_bestOf [.inr 0, .inl l1, .inl l2, .inl l3] u r.1 r.2 := ct_I (by decide +kernel) (Nat.le_of_ble_eq_true rfl) (fun K E h hr => w_X7_bestOf_0 h hr _ _ _ _ hf)
set_option maxRecDepth 100000 in
set_option maxHeartbeats 4000000 in
theorem w_X7_best_0 {K : Kx} {E : Ex} (h : Ok shM K E RX7 cX7_best 6 rm_X7_best) {r : Int32 × St} (hr : RetI shM K E cX7_best 6 r.1 r.2) (u : St) (l1 l2 l3 l4 : Int32) (hf : f_X7_best u l1 l2 l3 l4 = some r) : Vd shM K E 6 0 [some (.inr 0), some (.inl l1), some (.inl l2), some (.inl l3), some (.inl l4), none] [] u := by
  refine r_iload_n (pc := 0) h dX7_best_0 rfl ?_
  refine p_b hf (fun q1 e2 hf => ?_)
  refine r_cSi (pc := 1) (st := []) h [.inl l1] cs_X7_isLook wm_X7_112 (c_X7_isLook e2) ⟨rfl, rfl, Nat.le_of_ble_eq_true rfl, Nat.le_of_ble_eq_true rfl⟩ (Nat.le_of_ble_eq_true rfl) dX7_best_1 ?_
  refine p_ite hf (fun hc3 hf => ?_) (fun hc3 hf => ?_)
  · refine r_if_eq (pc := 4) (tgt := 33) h dX7_best_4 (by decide) (fun _ => ?_) (fun q => absurd hc3 q)
    refine r_aload_n (pc := 33) h dX7_best_33 rfl ?_
    refine r_iconst (pc := 34) (v := 1) h dX7_best_34 (by decide) ?_
    refine p_b hf (fun q4 e5 hf => ?_)
    refine r_cVi (pc := 35) (k := 0) (st := []) h [.inl 1] cv_X7_finding wm_X7_104 (c_X7_finding e5) ⟨rfl, rfl, Nat.le_of_ble_eq_true rfl, Nat.le_of_ble_eq_true rfl⟩ hshM_0 rfl rfl (Nat.le_of_ble_eq_true rfl) dX7_best_35 ?_
    have hf := Option.some.inj hf
    subst hf
    exact hr 38 _ dX7_best_38
  · refine r_if_eq (pc := 4) (tgt := 33) h dX7_best_4 (by decide) (fun q => absurd q hc3) (fun _ => ?_)
    refine r_iload_n (pc := 7) h dX7_best_7 rfl ?_
    refine p_b hf (fun q6 e7 hf => ?_)
    refine r_cSi (pc := 8) (st := []) h [.inl l2] cs_X7_isLook wm_X7_112 (c_X7_isLook e7) ⟨rfl, rfl, Nat.le_of_ble_eq_true rfl, Nat.le_of_ble_eq_true rfl⟩ (Nat.le_of_ble_eq_true rfl) dX7_best_8 ?_
    refine p_ite hf (fun hc8 hf => ?_) (fun hc8 hf => ?_)
    · refine r_if_eq (pc := 11) (tgt := 33) h dX7_best_11 (by decide) (fun _ => ?_) (fun q => absurd hc8 q)
      refine r_aload_n (pc := 33) h dX7_best_33 rfl ?_
      refine r_iconst (pc := 34) (v := 1) h dX7_best_34 (by decide) ?_
      refine p_b hf (fun q9 e10 hf => ?_)
      refine r_cVi (pc := 35) (k := 0) (st := []) h [.inl 1] cv_X7_finding wm_X7_104 (c_X7_finding e10) ⟨rfl, rfl, Nat.le_of_ble_eq_true rfl, Nat.le_of_ble_eq_true rfl⟩ hshM_0 rfl rfl (Nat.le_of_ble_eq_true rfl) dX7_best_35 ?_
      have hf := Option.some.inj hf
      subst hf
      exact hr 38 _ dX7_best_38
    · refine r_if_eq (pc := 11) (tgt := 33) h dX7_best_11 (by decide) (fun q => absurd q hc8) (fun _ => ?_)
      refine r_iload_n (pc := 14) h dX7_best_14 rfl ?_
      refine r_iconst (pc := 15) (v := 0) h dX7_best_15 (by decide) ?_
      refine r_iconst (pc := 16) (v := 3) h dX7_best_16 (by decide) ?_
      refine p_b hf (fun q11 e12 hf => ?_)
      refine r_cSi (pc := 17) (st := []) h [.inl l3, .inl 0, .inl 3] cs_X7_isIn wm_X7_100 (c_X7_isIn e12) ⟨rfl, rfl, Nat.le_of_ble_eq_true rfl, Nat.le_of_ble_eq_true rfl⟩ (Nat.le_of_ble_eq_true rfl) dX7_best_17 ?_
      refine p_ite hf (fun hc13 hf => ?_) (fun hc13 hf => ?_)
      · refine r_if_eq (pc := 20) (tgt := 33) h dX7_best_20 (by decide) (fun _ => ?_) (fun q => absurd hc13 q)
        refine r_aload_n (pc := 33) h dX7_best_33 rfl ?_
        refine r_iconst (pc := 34) (v := 1) h dX7_best_34 (by decide) ?_
        refine p_b hf (fun q14 e15 hf => ?_)
        refine r_cVi (pc := 35) (k := 0) (st := []) h [.inl 1] cv_X7_finding wm_X7_104 (c_X7_finding e15) ⟨rfl, rfl, Nat.le_of_ble_eq_true rfl, Nat.le_of_ble_eq_true rfl⟩ hshM_0 rfl rfl (Nat.le_of_ble_eq_true rfl) dX7_best_35 ?_
        have hf := Option.some.inj hf
        subst hf
        exact hr 38 _ dX7_best_38
      · refine r_if_eq (pc := 20) (tgt := 33) h dX7_best_20 (by decide) (fun q => absurd q hc13) (fun _ => ?_)
        refine r_iload (pc := 23) h dX7_best_23 rfl ?_
        refine r_iconst (pc := 25) (v := 0) h dX7_best_25 (by decide) ?_
        refine r_iconst (pc := 26) (v := 1) h dX7_best_26 (by decide) ?_
        refine p_b hf (fun q16 e17 hf => ?_)
        refine r_cSi (pc := 27) (st := []) h [.inl l4, .inl 0, .inl 1] cs_X7_isIn wm_X7_100 (c_X7_isIn e17) ⟨rfl, rfl, Nat.le_of_ble_eq_true rfl, Nat.le_of_ble_eq_true rfl⟩ (Nat.le_of_ble_eq_true rfl) dX7_best_27 ?_
        refine p_ite hf (fun hc18 hf => ?_) (fun hc18 hf => ?_)
        · refine r_if_ne (pc := 30) (tgt := 39) h dX7_best_30 (by decide) (fun q => absurd hc18 q) (fun _ => ?_)
          refine r_aload_n (pc := 33) h dX7_best_33 rfl ?_
          refine r_iconst (pc := 34) (v := 1) h dX7_best_34 (by decide) ?_
          refine p_b hf (fun q25 e26 hf => ?_)
          refine r_cVi (pc := 35) (k := 0) (st := []) h [.inl 1] cv_X7_finding wm_X7_104 (c_X7_finding e26) ⟨rfl, rfl, Nat.le_of_ble_eq_true rfl, Nat.le_of_ble_eq_true rfl⟩ hshM_0 rfl rfl (Nat.le_of_ble_eq_true rfl) dX7_best_35 ?_
          have hf := Option.some.inj hf
          subst hf
          exact hr 38 _ dX7_best_38
        · refine r_if_ne (pc := 30) (tgt := 39) h dX7_best_30 (by decide) (fun _ => ?_) (fun q => absurd q hc18)
          refine r_aload_n (pc := 39) h dX7_best_39 rfl ?_
          refine r_iload_n (pc := 40) h dX7_best_40 rfl ?_
          refine r_iload_n (pc := 41) h dX7_best_41 rfl ?_
          refine r_iload_n (pc := 42) h dX7_best_42 rfl ?_
          refine p_b hf (fun q19 e20 hf => ?_)
          refine r_cVi (pc := 43) (k := 0) (st := []) h [.inl l1, .inl l2, .inl l3] cv_X7_bestOf wm_X7_159 (c_X7_bestOf e20) ⟨rfl, rfl, Nat.le_of_ble_eq_true rfl, Nat.le_of_ble_eq_true rfl⟩ hshM_0 rfl rfl (Nat.le_of_ble_eq_true rfl) dX7_best_43 ?_
          refine r_istore (pc := 46) (L' := [some (.inr 0), some (.inl l1), some (.inl l2), some (.inl l3), some (.inl l4), some (.inl q19.1)]) h dX7_best_46 (by decide) rfl ?_
          refine r_iload (pc := 48) h dX7_best_48 rfl ?_
          refine p_ite hf (fun hc21 hf => ?_) (fun hc21 hf => ?_)
          · refine r_if_ge (pc := 50) (tgt := 61) h dX7_best_50 (by decide) (fun _ => ?_) (fun q => absurd hc21 q)
            refine r_iload (pc := 61) h dX7_best_61 rfl ?_
            refine p_ite hf (fun hc22 hf => ?_) (fun hc22 hf => ?_)
            · refine r_if_ne (pc := 63) (tgt := 73) h dX7_best_63 (by decide) (fun q => absurd hc22 q) (fun _ => ?_)
              refine r_aload_n (pc := 66) h dX7_best_66 rfl ?_
              refine gf_X7_156 (pc := 67) (v := (q19.2 0 28)) h rfl dX7_best_67 ?_
              refine r_goto (pc := 70) (tgt := 75) h dX7_best_70 (by decide) ?_
              have hf := Option.some.inj hf
              subst hf
              exact hr 75 _ dX7_best_75
            · refine r_if_ne (pc := 63) (tgt := 73) h dX7_best_63 (by decide) (fun _ => ?_) (fun q => absurd q hc22)
              refine r_iload (pc := 73) h dX7_best_73 rfl ?_
              have hf := Option.some.inj hf
              subst hf
              exact hr 75 _ dX7_best_75
          · refine r_if_ge (pc := 50) (tgt := 61) h dX7_best_50 (by decide) (fun q => absurd q hc21) (fun _ => ?_)
            refine r_aload_n (pc := 53) h dX7_best_53 rfl ?_
            refine r_iconst (pc := 54) (v := 2) h dX7_best_54 (by decide) ?_
            refine p_b hf (fun q23 e24 hf => ?_)
            refine r_cVi (pc := 55) (k := 0) (st := []) h [.inl 2] cv_X7_finding wm_X7_104 (c_X7_finding e24) ⟨rfl, rfl, Nat.le_of_ble_eq_true rfl, Nat.le_of_ble_eq_true rfl⟩ hshM_0 rfl rfl (Nat.le_of_ble_eq_true rfl) dX7_best_55 ?_
            refine r_goto (pc := 58) (tgt := 75) h dX7_best_58 (by decide) ?_
            have hf := Option.some.inj hf
            subst hf
            exact hr 75 _ dX7_best_75
theorem c_X7_best {u : St} {l1 l2 l3 l4 : Int32} {r : Int32 × St} (hf : f_X7_best u l1 l2 l3 l4 = some r) : CtI shM yX7_best cX7_best 6 (some .int) rm_X7_best [.inr 0, .inl l1, .inl l2, .inl l3, .inl l4] u r.1 r.2 := ct_I (by decide +kernel) (Nat.le_of_ble_eq_true rfl) (fun K E h hr => w_X7_best_0 h hr _ _ _ _ _ hf)
set_option maxRecDepth 100000 in
set_option maxHeartbeats 4000000 in
theorem w_X7_isDoor_0 {K : Kx} {E : Ex} (h : Ok shM K E RX7 cX7_isDoor 1 rm_X7_isDoor) {r : Int32} {u : St} (hr : RetZ shM K E cX7_isDoor 1 r u) (l0 : Int32) (hf : f_X7_isDoor u l0 = some r) : Vd shM K E 1 0 [some (.inl l0)] [] u := by
  refine r_iload_n (pc := 0) h dX7_isDoor_0 rfl ?_
  refine r_iconst (pc := 1) (v := 0) h dX7_isDoor_1 (by decide) ?_
  refine r_iconst (pc := 2) (v := 5) h dX7_isDoor_2 (by decide) ?_
  refine p_b hf (fun q1 e2 hf => ?_)
  refine r_cSi (pc := 3) (st := []) h [.inl l0, .inl 0, .inl 5] cs_X7_isIn wm_X7_100 (c_X7_isIn e2) ⟨rfl, rfl, Nat.le_of_ble_eq_true rfl, Nat.le_of_ble_eq_true rfl⟩ (Nat.le_of_ble_eq_true rfl) dX7_isDoor_3 ?_
  refine p_gp hf (fun hc3 hf => ?_)
  have hf := Option.some.inj hf
  subst hf
  exact hr 6 _ dX7_isDoor_6 (z01 hc3)
theorem c_X7_isDoor {u : St} {l0 : Int32} {r : Int32} (hf : f_X7_isDoor u l0 = some r) : CtI shM yX7_isDoor cX7_isDoor 1 (some .boolean) rm_X7_isDoor [.inl l0] u r u := ct_Z (by decide +kernel) (Nat.le_of_ble_eq_true rfl) (fun K E h hr => w_X7_isDoor_0 h hr _ hf)
set_option maxRecDepth 100000 in
set_option maxHeartbeats 4000000 in
theorem w_X7_shift_80 {K : Kx} {E : Ex} (h : Ok shM K E RX7 cX7_shift 6 rm_X7_shift) {r : Int32 × St} (hr : RetI shM K E cX7_shift 6 r.1 r.2) (u : St) (l1 l2 l3 l4 s0 : Int32) (hf : f_X7_shift_80 u l1 l2 l3 l4 s0 = some r) : Vd shM K E 6 80 [some (.inr 0), some (.inl l1), some (.inl l2), some (.inl l3), some (.inl l4), none] [.inl s0] u := by
  refine r_istore (pc := 80) (L' := [some (.inr 0), some (.inl l1), some (.inl l2), some (.inl l3), some (.inl l4), some (.inl s0)]) h dX7_shift_80 (by decide) rfl ?_
  refine r_iload (pc := 82) h dX7_shift_82 rfl ?_
  refine p_ite hf (fun hc1 hf => ?_) (fun hc1 hf => ?_)
  · refine r_if_ne (pc := 84) (tgt := 93) h dX7_shift_84 (by decide) (fun q => absurd hc1 q) (fun _ => ?_)
    refine r_aload_n (pc := 87) h dX7_shift_87 rfl ?_
    refine r_iconst (pc := 88) (v := 1) h dX7_shift_88 (by decide) ?_
    refine p_b hf (fun q6 e7 hf => ?_)
    refine r_cVi (pc := 89) (k := 0) (st := []) h [.inl 1] cv_X7_finding wm_X7_104 (c_X7_finding e7) ⟨rfl, rfl, Nat.le_of_ble_eq_true rfl, Nat.le_of_ble_eq_true rfl⟩ hshM_0 rfl rfl (Nat.le_of_ble_eq_true rfl) dX7_shift_89 ?_
    have hf := Option.some.inj hf
    subst hf
    exact hr 92 _ dX7_shift_92
  · refine r_if_ne (pc := 84) (tgt := 93) h dX7_shift_84 (by decide) (fun _ => ?_) (fun q => absurd q hc1)
    refine r_aload_n (pc := 93) h dX7_shift_93 rfl ?_
    refine gf_X7_166 (pc := 94) (v := (u 0 14)) h rfl dX7_shift_94 ?_
    refine r_bipush (pc := 97) (v := 12) h dX7_shift_97 (by decide) ?_
    refine p_ite hf (fun hc2 hf => ?_) (fun hc2 hf => ?_)
    · refine r_icmp_ne (pc := 99) (tgt := 108) h dX7_shift_99 (by decide) (fun q => absurd hc2 q) (fun _ => ?_)
      refine r_aload_n (pc := 102) h dX7_shift_102 rfl ?_
      refine r_iconst (pc := 103) (v := 4) h dX7_shift_103 (by decide) ?_
      refine p_b hf (fun q4 e5 hf => ?_)
      refine r_cVi (pc := 104) (k := 0) (st := []) h [.inl 4] cv_X7_finding wm_X7_104 (c_X7_finding e5) ⟨rfl, rfl, Nat.le_of_ble_eq_true rfl, Nat.le_of_ble_eq_true rfl⟩ hshM_0 rfl rfl (Nat.le_of_ble_eq_true rfl) dX7_shift_104 ?_
      have hf := Option.some.inj hf
      subst hf
      exact hr 107 _ dX7_shift_107
    · refine r_icmp_ne (pc := 99) (tgt := 108) h dX7_shift_99 (by decide) (fun _ => ?_) (fun q => absurd q hc2)
      refine r_aload_n (pc := 108) h dX7_shift_108 rfl ?_
      refine gf_X7_50 (pc := 109) h dX7_shift_109 ?_
      refine r_aload_n (pc := 112) h dX7_shift_112 rfl ?_
      refine gf_X7_166 (pc := 113) (v := (u 0 14)) h rfl dX7_shift_113 ?_
      refine r_iload_n (pc := 116) h dX7_shift_116 rfl ?_
      refine r_sipush (pc := 117) (v := 1000) h dX7_shift_117 (by decide) ?_
      refine r_idiv (pc := 120) h dX7_shift_120 (by decide) ?_
      refine p_g hf (fun hi3 hf => ?_)
      refine r_iast (pc := 121) (k := 13) h hshM_13 hi3 dX7_shift_121 ?_
      refine r_aload_n (pc := 122) h dX7_shift_122 rfl ?_
      refine gf_X7_53 (pc := 123) h dX7_shift_123 ?_
      refine r_aload_n (pc := 126) h dX7_shift_126 rfl ?_
      refine gf_X7_166 (pc := 127) (v := (u 0 14)) h rfl dX7_shift_127 ?_
      refine r_iload_n (pc := 130) h dX7_shift_130 rfl ?_
      refine r_bipush (pc := 131) (v := 10) h dX7_shift_131 (by decide) ?_
      refine r_idiv (pc := 133) h dX7_shift_133 (by decide) ?_
      refine r_bipush (pc := 134) (v := 100) h dX7_shift_134 (by decide) ?_
      refine r_irem (pc := 136) h dX7_shift_136 (by decide) ?_
      refine r_iast (pc := 137) (k := 14) h hshM_14 hi3 dX7_shift_137 ?_
      refine r_aload_n (pc := 138) h dX7_shift_138 rfl ?_
      refine gf_X7_56 (pc := 139) h dX7_shift_139 ?_
      refine r_aload_n (pc := 142) h dX7_shift_142 rfl ?_
      refine gf_X7_166 (pc := 143) (v := (u 0 14)) h rfl dX7_shift_143 ?_
      refine r_iload_n (pc := 146) h dX7_shift_146 rfl ?_
      refine r_bipush (pc := 147) (v := 10) h dX7_shift_147 (by decide) ?_
      refine r_irem (pc := 149) h dX7_shift_149 (by decide) ?_
      refine r_iast (pc := 150) (k := 15) h hshM_15 hi3 dX7_shift_150 ?_
      refine r_aload_n (pc := 151) h dX7_shift_151 rfl ?_
      refine gf_X7_59 (pc := 152) h dX7_shift_152 ?_
      refine r_aload_n (pc := 155) h dX7_shift_155 rfl ?_
      refine gf_X7_166 (pc := 156) (v := (u 0 14)) h rfl dX7_shift_156 ?_
      refine r_iload_n (pc := 159) h dX7_shift_159 rfl ?_
      refine r_iast (pc := 160) (k := 16) h hshM_16 hi3 dX7_shift_160 ?_
      refine r_aload_n (pc := 161) h dX7_shift_161 rfl ?_
      refine gf_X7_62 (pc := 162) h dX7_shift_162 ?_
      refine r_aload_n (pc := 165) h dX7_shift_165 rfl ?_
      refine gf_X7_166 (pc := 166) (v := (u 0 14)) h rfl dX7_shift_166 ?_
      refine r_iload_n (pc := 169) h dX7_shift_169 rfl ?_
      refine r_iast (pc := 170) (k := 17) h hshM_17 hi3 dX7_shift_170 ?_
      refine r_aload_n (pc := 171) h dX7_shift_171 rfl ?_
      refine gf_X7_65 (pc := 172) h dX7_shift_172 ?_
      refine r_aload_n (pc := 175) h dX7_shift_175 rfl ?_
      refine gf_X7_166 (pc := 176) (v := (u 0 14)) h rfl dX7_shift_176 ?_
      refine r_iload (pc := 179) h dX7_shift_179 rfl ?_
      refine r_iast (pc := 181) (k := 18) h hshM_18 hi3 dX7_shift_181 ?_
      refine r_aload_n (pc := 182) h dX7_shift_182 rfl ?_
      refine r_dup (pc := 183) h dX7_shift_183 ?_
      refine gf_X7_166 (pc := 184) (v := (u 0 14)) h rfl dX7_shift_184 ?_
      refine r_iconst (pc := 187) (v := 1) h dX7_shift_187 (by decide) ?_
      refine r_iadd (pc := 188) h dX7_shift_188 ?_
      refine pf_X7_166 (pc := 189) h dX7_shift_189 ?_
      refine r_aload_n (pc := 192) h dX7_shift_192 rfl ?_
      refine gf_X7_166 (pc := 193) (v := ((u 0 14) + 1)) h rfl dX7_shift_193 ?_
      refine r_iconst (pc := 196) (v := 1) h dX7_shift_196 (by decide) ?_
      refine r_isub (pc := 197) h dX7_shift_197 ?_
      have hf := Option.some.inj hf
      subst hf
      exact hr 198 _ dX7_shift_198
set_option maxRecDepth 100000 in
set_option maxHeartbeats 4000000 in
theorem w_X7_shift_0 {K : Kx} {E : Ex} (h : Ok shM K E RX7 cX7_shift 6 rm_X7_shift) {r : Int32 × St} (hr : RetI shM K E cX7_shift 6 r.1 r.2) (u : St) (l1 l2 l3 l4 : Int32) (hf : f_X7_shift u l1 l2 l3 l4 = some r) : Vd shM K E 6 0 [some (.inr 0), some (.inl l1), some (.inl l2), some (.inl l3), some (.inl l4), none] [] u := by
  refine r_iload_n (pc := 0) h dX7_shift_0 rfl ?_
  refine p_ite hf (fun hc8 hf => ?_) (fun hc8 hf => ?_)
  · refine r_if_lt (pc := 1) (tgt := 79) h dX7_shift_1 (by decide) (fun _ => ?_) (fun q => absurd hc8 q)
    refine r_iconst (pc := 79) (v := 0) h dX7_shift_79 (by decide) ?_
    exact w_X7_shift_80 h hr _ _ _ _ _ _ hf
  · refine r_if_lt (pc := 1) (tgt := 79) h dX7_shift_1 (by decide) (fun q => absurd q hc8) (fun _ => ?_)
    refine r_iload_n (pc := 4) h dX7_shift_4 rfl ?_
    refine r_sipush (pc := 5) (v := 1000) h dX7_shift_5 (by decide) ?_
    refine r_idiv (pc := 8) h dX7_shift_8 (by decide) ?_
    refine p_b hf (fun q9 e10 hf => ?_)
    refine r_cSi (pc := 9) (st := []) h [.inl (l1 / 1000)] cs_X7_isLook wm_X7_112 (c_X7_isLook e10) ⟨rfl, rfl, Nat.le_of_ble_eq_true rfl, Nat.le_of_ble_eq_true rfl⟩ (Nat.le_of_ble_eq_true rfl) dX7_shift_9 ?_
    refine p_ite hf (fun hc11 hf => ?_) (fun hc11 hf => ?_)
    · refine r_if_eq (pc := 12) (tgt := 79) h dX7_shift_12 (by decide) (fun _ => ?_) (fun q => absurd hc11 q)
      refine r_iconst (pc := 79) (v := 0) h dX7_shift_79 (by decide) ?_
      exact w_X7_shift_80 h hr _ _ _ _ _ _ hf
    · refine r_if_eq (pc := 12) (tgt := 79) h dX7_shift_12 (by decide) (fun q => absurd q hc11) (fun _ => ?_)
      refine r_iload_n (pc := 15) h dX7_shift_15 rfl ?_
      refine r_bipush (pc := 16) (v := 10) h dX7_shift_16 (by decide) ?_
      refine r_idiv (pc := 18) h dX7_shift_18 (by decide) ?_
      refine r_bipush (pc := 19) (v := 100) h dX7_shift_19 (by decide) ?_
      refine r_irem (pc := 21) h dX7_shift_21 (by decide) ?_
      refine p_b hf (fun q12 e13 hf => ?_)
      refine r_cSi (pc := 22) (st := []) h [.inl ((l1 / 10) - (l1 / 10) / 100 * 100)] cs_X7_isLook wm_X7_112 (c_X7_isLook e13) ⟨rfl, rfl, Nat.le_of_ble_eq_true rfl, Nat.le_of_ble_eq_true rfl⟩ (Nat.le_of_ble_eq_true rfl) dX7_shift_22 ?_
      refine p_ite hf (fun hc14 hf => ?_) (fun hc14 hf => ?_)
      · refine r_if_eq (pc := 25) (tgt := 79) h dX7_shift_25 (by decide) (fun _ => ?_) (fun q => absurd hc14 q)
        refine r_iconst (pc := 79) (v := 0) h dX7_shift_79 (by decide) ?_
        exact w_X7_shift_80 h hr _ _ _ _ _ _ hf
      · refine r_if_eq (pc := 25) (tgt := 79) h dX7_shift_25 (by decide) (fun q => absurd q hc14) (fun _ => ?_)
        refine r_iload_n (pc := 28) h dX7_shift_28 rfl ?_
        refine r_bipush (pc := 29) (v := 10) h dX7_shift_29 (by decide) ?_
        refine r_irem (pc := 31) h dX7_shift_31 (by decide) ?_
        refine p_b hf (fun q15 e16 hf => ?_)
        refine r_cSi (pc := 32) (st := []) h [.inl (l1 - l1 / 10 * 10)] cs_X7_isDoor wm_X7_163 (c_X7_isDoor e16) ⟨rfl, rfl, Nat.le_of_ble_eq_true rfl, Nat.le_of_ble_eq_true rfl⟩ (Nat.le_of_ble_eq_true rfl) dX7_shift_32 ?_
        refine p_ite hf (fun hc17 hf => ?_) (fun hc17 hf => ?_)
        · refine r_if_eq (pc := 35) (tgt := 79) h dX7_shift_35 (by decide) (fun _ => ?_) (fun q => absurd hc17 q)
          refine r_iconst (pc := 79) (v := 0) h dX7_shift_79 (by decide) ?_
          exact w_X7_shift_80 h hr _ _ _ _ _ _ hf
        · refine r_if_eq (pc := 35) (tgt := 79) h dX7_shift_35 (by decide) (fun q => absurd q hc17) (fun _ => ?_)
          refine r_iload_n (pc := 38) h dX7_shift_38 rfl ?_
          refine r_iconst (pc := 39) (v := 0) h dX7_shift_39 (by decide) ?_
          refine r_sipush (pc := 40) (v := 20000) h dX7_shift_40 (by decide) ?_
          refine p_b hf (fun q18 e19 hf => ?_)
          refine r_cSi (pc := 43) (st := []) h [.inl l2, .inl 0, .inl 20000] cs_X7_isIn wm_X7_100 (c_X7_isIn e19) ⟨rfl, rfl, Nat.le_of_ble_eq_true rfl, Nat.le_of_ble_eq_true rfl⟩ (Nat.le_of_ble_eq_true rfl) dX7_shift_43 ?_
          refine p_ite hf (fun hc20 hf => ?_) (fun hc20 hf => ?_)
          · refine r_if_eq (pc := 46) (tgt := 79) h dX7_shift_46 (by decide) (fun _ => ?_) (fun q => absurd hc20 q)
            refine r_iconst (pc := 79) (v := 0) h dX7_shift_79 (by decide) ?_
            exact w_X7_shift_80 h hr _ _ _ _ _ _ hf
          · refine r_if_eq (pc := 46) (tgt := 79) h dX7_shift_46 (by decide) (fun q => absurd q hc20) (fun _ => ?_)
            refine r_iload_n (pc := 49) h dX7_shift_49 rfl ?_
            refine r_iconst (pc := 50) (v := 0) h dX7_shift_50 (by decide) ?_
            refine r_sipush (pc := 51) (v := 20000) h dX7_shift_51 (by decide) ?_
            refine p_b hf (fun q21 e22 hf => ?_)
            refine r_cSi (pc := 54) (st := []) h [.inl l3, .inl 0, .inl 20000] cs_X7_isIn wm_X7_100 (c_X7_isIn e22) ⟨rfl, rfl, Nat.le_of_ble_eq_true rfl, Nat.le_of_ble_eq_true rfl⟩ (Nat.le_of_ble_eq_true rfl) dX7_shift_54 ?_
            refine p_ite hf (fun hc23 hf => ?_) (fun hc23 hf => ?_)
            · refine r_if_eq (pc := 57) (tgt := 79) h dX7_shift_57 (by decide) (fun _ => ?_) (fun q => absurd hc23 q)
              refine r_iconst (pc := 79) (v := 0) h dX7_shift_79 (by decide) ?_
              exact w_X7_shift_80 h hr _ _ _ _ _ _ hf
            · refine r_if_eq (pc := 57) (tgt := 79) h dX7_shift_57 (by decide) (fun q => absurd q hc23) (fun _ => ?_)
              refine r_iload_n (pc := 60) h dX7_shift_60 rfl ?_
              refine r_iload_n (pc := 61) h dX7_shift_61 rfl ?_
              refine p_ite hf (fun hc24 hf => ?_) (fun hc24 hf => ?_)
              · refine r_icmp_ge (pc := 62) (tgt := 79) h dX7_shift_62 (by decide) (fun _ => ?_) (fun q => absurd hc24 q)
                refine r_iconst (pc := 79) (v := 0) h dX7_shift_79 (by decide) ?_
                exact w_X7_shift_80 h hr _ _ _ _ _ _ hf
              · refine r_icmp_ge (pc := 62) (tgt := 79) h dX7_shift_62 (by decide) (fun q => absurd q hc24) (fun _ => ?_)
                refine r_iload (pc := 65) h dX7_shift_65 rfl ?_
                refine r_iconst (pc := 67) (v := 0) h dX7_shift_67 (by decide) ?_
                refine r_iconst (pc := 68) (v := 3) h dX7_shift_68 (by decide) ?_
                refine p_b hf (fun q25 e26 hf => ?_)
                refine r_cSi (pc := 69) (st := []) h [.inl l4, .inl 0, .inl 3] cs_X7_isIn wm_X7_100 (c_X7_isIn e26) ⟨rfl, rfl, Nat.le_of_ble_eq_true rfl, Nat.le_of_ble_eq_true rfl⟩ (Nat.le_of_ble_eq_true rfl) dX7_shift_69 ?_
                refine p_ite hf (fun hc27 hf => ?_) (fun hc27 hf => ?_)
                · refine r_if_eq (pc := 72) (tgt := 79) h dX7_shift_72 (by decide) (fun _ => ?_) (fun q => absurd hc27 q)
                  refine r_iconst (pc := 79) (v := 0) h dX7_shift_79 (by decide) ?_
                  exact w_X7_shift_80 h hr _ _ _ _ _ _ hf
                · refine r_if_eq (pc := 72) (tgt := 79) h dX7_shift_72 (by decide) (fun q => absurd q hc27) (fun _ => ?_)
                  refine r_iconst (pc := 75) (v := 1) h dX7_shift_75 (by decide) ?_
                  refine r_goto (pc := 76) (tgt := 80) h dX7_shift_76 (by decide) ?_
                  exact w_X7_shift_80 h hr _ _ _ _ _ _ hf
theorem c_X7_shift {u : St} {l1 l2 l3 l4 : Int32} {r : Int32 × St} (hf : f_X7_shift u l1 l2 l3 l4 = some r) : CtI shM yX7_shift cX7_shift 6 (some .int) rm_X7_shift [.inr 0, .inl l1, .inl l2, .inl l3, .inl l4] u r.1 r.2 := ct_I (by decide +kernel) (Nat.le_of_ble_eq_true rfl) (fun K E h hr => w_X7_shift_0 h hr _ _ _ _ _ hf)
set_option maxRecDepth 100000 in
set_option maxHeartbeats 4000000 in
theorem w_X7_less_0 {K : Kx} {E : Ex} (h : Ok shM K E RX7 cX7_less 1 rm_X7_less) {r : Int32 × St} (hr : RetI shM K E cX7_less 1 r.1 r.2) (u : St) (hf : f_X7_less u = some r) : Vd shM K E 1 0 [some (.inr 0)] [] u := by
  refine r_aload_n (pc := 0) h dX7_less_0 rfl ?_
  refine gf_X7_166 (pc := 1) (v := (u 0 14)) h rfl dX7_less_1 ?_
  refine p_ite hf (fun hc1 hf => ?_) (fun hc1 hf => ?_)
  · refine r_if_ne (pc := 4) (tgt := 13) h dX7_less_4 (by decide) (fun q => absurd hc1 q) (fun _ => ?_)
    refine r_aload_n (pc := 7) h dX7_less_7 rfl ?_
    refine r_iconst (pc := 8) (v := 2) h dX7_less_8 (by decide) ?_
    refine p_b hf (fun q2 e3 hf => ?_)
    refine r_cVi (pc := 9) (k := 0) (st := []) h [.inl 2] cv_X7_finding wm_X7_104 (c_X7_finding e3) ⟨rfl, rfl, Nat.le_of_ble_eq_true rfl, Nat.le_of_ble_eq_true rfl⟩ hshM_0 rfl rfl (Nat.le_of_ble_eq_true rfl) dX7_less_9 ?_
    have hf := Option.some.inj hf
    subst hf
    exact hr 12 _ dX7_less_12
  · refine r_if_ne (pc := 4) (tgt := 13) h dX7_less_4 (by decide) (fun _ => ?_) (fun q => absurd q hc1)
    refine r_aload_n (pc := 13) h dX7_less_13 rfl ?_
    refine r_dup (pc := 14) h dX7_less_14 ?_
    refine gf_X7_166 (pc := 15) (v := (u 0 14)) h rfl dX7_less_15 ?_
    refine r_iconst (pc := 18) (v := 1) h dX7_less_18 (by decide) ?_
    refine r_isub (pc := 19) h dX7_less_19 ?_
    refine pf_X7_166 (pc := 20) h dX7_less_20 ?_
    refine r_aload_n (pc := 23) h dX7_less_23 rfl ?_
    refine gf_X7_166 (pc := 24) (v := ((u 0 14) - 1)) h rfl dX7_less_24 ?_
    have hf := Option.some.inj hf
    subst hf
    exact hr 27 _ dX7_less_27
theorem c_X7_less {u : St} {r : Int32 × St} (hf : f_X7_less u = some r) : CtI shM yX7_less cX7_less 1 (some .int) rm_X7_less [.inr 0] u r.1 r.2 := ct_I (by decide +kernel) (Nat.le_of_ble_eq_true rfl) (fun K E h hr => w_X7_less_0 h hr _ hf)
set_option maxRecDepth 100000 in
set_option maxHeartbeats 4000000 in
theorem w_X7_way_0 {K : Kx} {E : Ex} (h : Ok shM K E RX7 cX7_way 5 rm_X7_way) {r : Int32 × St} (hr : RetI shM K E cX7_way 5 r.1 r.2) (u : St) (l1 l2 l3 : Int32) (hf : f_X7_way u l1 l2 l3 = some r) : Vd shM K E 5 0 [some (.inr 0), some (.inl l1), some (.inl l2), some (.inl l3), none] [] u := by
  refine r_iload_n (pc := 0) h dX7_way_0 rfl ?_
  refine p_b hf (fun q1 e2 hf => ?_)
  refine r_cSi (pc := 1) (st := []) h [.inl l1] cs_X7_isDoor wm_X7_163 (c_X7_isDoor e2) ⟨rfl, rfl, Nat.le_of_ble_eq_true rfl, Nat.le_of_ble_eq_true rfl⟩ (Nat.le_of_ble_eq_true rfl) dX7_way_1 ?_
  refine p_ite hf (fun hc3 hf => ?_) (fun hc3 hf => ?_)
  · refine r_if_eq (pc := 4) (tgt := 30) h dX7_way_4 (by decide) (fun _ => ?_) (fun q => absurd hc3 q)
    refine r_aload_n (pc := 30) h dX7_way_30 rfl ?_
    refine r_iconst (pc := 31) (v := 1) h dX7_way_31 (by decide) ?_
    refine p_b hf (fun q4 e5 hf => ?_)
    refine r_cVi (pc := 32) (k := 0) (st := []) h [.inl 1] cv_X7_finding wm_X7_104 (c_X7_finding e5) ⟨rfl, rfl, Nat.le_of_ble_eq_true rfl, Nat.le_of_ble_eq_true rfl⟩ hshM_0 rfl rfl (Nat.le_of_ble_eq_true rfl) dX7_way_32 ?_
    have hf := Option.some.inj hf
    subst hf
    exact hr 35 _ dX7_way_35
  · refine r_if_eq (pc := 4) (tgt := 30) h dX7_way_4 (by decide) (fun q => absurd q hc3) (fun _ => ?_)
    refine r_iload_n (pc := 7) h dX7_way_7 rfl ?_
    refine p_b hf (fun q6 e7 hf => ?_)
    refine r_cSi (pc := 8) (st := []) h [.inl l2] cs_X7_isDoor wm_X7_163 (c_X7_isDoor e7) ⟨rfl, rfl, Nat.le_of_ble_eq_true rfl, Nat.le_of_ble_eq_true rfl⟩ (Nat.le_of_ble_eq_true rfl) dX7_way_8 ?_
    refine p_ite hf (fun hc8 hf => ?_) (fun hc8 hf => ?_)
    · refine r_if_eq (pc := 11) (tgt := 30) h dX7_way_11 (by decide) (fun _ => ?_) (fun q => absurd hc8 q)
      refine r_aload_n (pc := 30) h dX7_way_30 rfl ?_
      refine r_iconst (pc := 31) (v := 1) h dX7_way_31 (by decide) ?_
      refine p_b hf (fun q9 e10 hf => ?_)
      refine r_cVi (pc := 32) (k := 0) (st := []) h [.inl 1] cv_X7_finding wm_X7_104 (c_X7_finding e10) ⟨rfl, rfl, Nat.le_of_ble_eq_true rfl, Nat.le_of_ble_eq_true rfl⟩ hshM_0 rfl rfl (Nat.le_of_ble_eq_true rfl) dX7_way_32 ?_
      have hf := Option.some.inj hf
      subst hf
      exact hr 35 _ dX7_way_35
    · refine r_if_eq (pc := 11) (tgt := 30) h dX7_way_11 (by decide) (fun q => absurd q hc8) (fun _ => ?_)
      refine r_iload_n (pc := 14) h dX7_way_14 rfl ?_
      refine r_iload_n (pc := 15) h dX7_way_15 rfl ?_
      refine p_ite hf (fun hc11 hf => ?_) (fun hc11 hf => ?_)
      · refine r_icmp_eq (pc := 16) (tgt := 30) h dX7_way_16 (by decide) (fun _ => ?_) (fun q => absurd hc11 q)
        refine r_aload_n (pc := 30) h dX7_way_30 rfl ?_
        refine r_iconst (pc := 31) (v := 1) h dX7_way_31 (by decide) ?_
        refine p_b hf (fun q12 e13 hf => ?_)
        refine r_cVi (pc := 32) (k := 0) (st := []) h [.inl 1] cv_X7_finding wm_X7_104 (c_X7_finding e13) ⟨rfl, rfl, Nat.le_of_ble_eq_true rfl, Nat.le_of_ble_eq_true rfl⟩ hshM_0 rfl rfl (Nat.le_of_ble_eq_true rfl) dX7_way_32 ?_
        have hf := Option.some.inj hf
        subst hf
        exact hr 35 _ dX7_way_35
      · refine r_icmp_eq (pc := 16) (tgt := 30) h dX7_way_16 (by decide) (fun q => absurd q hc11) (fun _ => ?_)
        refine r_iload_n (pc := 19) h dX7_way_19 rfl ?_
        refine r_iconst (pc := 20) (v := 0) h dX7_way_20 (by decide) ?_
        refine r_sipush (pc := 21) (v := 600) h dX7_way_21 (by decide) ?_
        refine p_b hf (fun q14 e15 hf => ?_)
        refine r_cSi (pc := 24) (st := []) h [.inl l3, .inl 0, .inl 600] cs_X7_isIn wm_X7_100 (c_X7_isIn e15) ⟨rfl, rfl, Nat.le_of_ble_eq_true rfl, Nat.le_of_ble_eq_true rfl⟩ (Nat.le_of_ble_eq_true rfl) dX7_way_24 ?_
        refine p_ite hf (fun hc16 hf => ?_) (fun hc16 hf => ?_)
        · refine r_if_ne (pc := 27) (tgt := 36) h dX7_way_27 (by decide) (fun q => absurd hc16 q) (fun _ => ?_)
          refine r_aload_n (pc := 30) h dX7_way_30 rfl ?_
          refine r_iconst (pc := 31) (v := 1) h dX7_way_31 (by decide) ?_
          refine p_b hf (fun q19 e20 hf => ?_)
          refine r_cVi (pc := 32) (k := 0) (st := []) h [.inl 1] cv_X7_finding wm_X7_104 (c_X7_finding e20) ⟨rfl, rfl, Nat.le_of_ble_eq_true rfl, Nat.le_of_ble_eq_true rfl⟩ hshM_0 rfl rfl (Nat.le_of_ble_eq_true rfl) dX7_way_32 ?_
          have hf := Option.some.inj hf
          subst hf
          exact hr 35 _ dX7_way_35
        · refine r_if_ne (pc := 27) (tgt := 36) h dX7_way_27 (by decide) (fun _ => ?_) (fun q => absurd q hc16)
          refine r_aload_n (pc := 36) h dX7_way_36 rfl ?_
          refine gf_X7_68 (pc := 37) h dX7_way_37 ?_
          refine r_bipush (pc := 40) (v := 6) h dX7_way_40 (by decide) ?_
          refine r_iload_n (pc := 42) h dX7_way_42 rfl ?_
          refine r_imul (pc := 43) h dX7_way_43 ?_
          refine r_iload_n (pc := 44) h dX7_way_44 rfl ?_
          refine r_iadd (pc := 45) h dX7_way_45 ?_
          refine p_g hf (fun hi17 hf => ?_)
          refine r_iald (pc := 46) (k := 19) (v := (u 19 ((6 * l1) + l2).toNatClampNeg)) h hshM_19 hi17 rfl dX7_way_46 ?_
          refine r_istore (pc := 47) (L' := [some (.inr 0), some (.inl l1), some (.inl l2), some (.inl l3), some (.inl (u 19 ((6 * l1) + l2).toNatClampNeg))]) h dX7_way_47 (by decide) rfl ?_
          refine r_aload_n (pc := 49) h dX7_way_49 rfl ?_
          refine gf_X7_68 (pc := 50) h dX7_way_50 ?_
          refine r_bipush (pc := 53) (v := 6) h dX7_way_53 (by decide) ?_
          refine r_iload_n (pc := 55) h dX7_way_55 rfl ?_
          refine r_imul (pc := 56) h dX7_way_56 ?_
          refine r_iload_n (pc := 57) h dX7_way_57 rfl ?_
          refine r_iadd (pc := 58) h dX7_way_58 ?_
          refine r_iload_n (pc := 59) h dX7_way_59 rfl ?_
          refine r_iast (pc := 60) (k := 19) h hshM_19 hi17 dX7_way_60 ?_
          refine r_aload_n (pc := 61) h dX7_way_61 rfl ?_
          refine gf_X7_68 (pc := 62) h dX7_way_62 ?_
          refine r_bipush (pc := 65) (v := 6) h dX7_way_65 (by decide) ?_
          refine r_iload_n (pc := 67) h dX7_way_67 rfl ?_
          refine r_imul (pc := 68) h dX7_way_68 ?_
          refine r_iload_n (pc := 69) h dX7_way_69 rfl ?_
          refine r_iadd (pc := 70) h dX7_way_70 ?_
          refine r_iload_n (pc := 71) h dX7_way_71 rfl ?_
          refine p_g hf (fun hi18 hf => ?_)
          refine r_iast (pc := 72) (k := 19) h hshM_19 hi18 dX7_way_72 ?_
          refine r_iload (pc := 73) h dX7_way_73 rfl ?_
          have hf := Option.some.inj hf
          subst hf
          exact hr 75 _ dX7_way_75
theorem c_X7_way {u : St} {l1 l2 l3 : Int32} {r : Int32 × St} (hf : f_X7_way u l1 l2 l3 = some r) : CtI shM yX7_way cX7_way 5 (some .int) rm_X7_way [.inr 0, .inl l1, .inl l2, .inl l3] u r.1 r.2 := ct_I (by decide +kernel) (Nat.le_of_ble_eq_true rfl) (fun K E h hr => w_X7_way_0 h hr _ _ _ _ hf)
set_option maxRecDepth 100000 in
set_option maxHeartbeats 4000000 in
theorem w_X7_fits_0 {K : Kx} {E : Ex} (h : Ok shM K E RX7 cX7_fits 3 rm_X7_fits) {r : Int32 × St} (hr : RetI shM K E cX7_fits 3 r.1 r.2) (u : St) (l1 : Int32) (hf : f_X7_fits u l1 = some r) : Vd shM K E 3 0 [some (.inr 0), some (.inl l1), none] [] u := by
  refine r_iload_n (pc := 0) h dX7_fits_0 rfl ?_
  refine p_ite hf (fun hc1 hf => ?_) (fun hc1 hf => ?_)
  · refine r_if_lt (pc := 1) (tgt := 12) h dX7_fits_1 (by decide) (fun _ => ?_) (fun q => absurd hc1 q)
    refine r_aload_n (pc := 12) h dX7_fits_12 rfl ?_
    refine r_iconst (pc := 13) (v := 1) h dX7_fits_13 (by decide) ?_
    refine p_b hf (fun q2 e3 hf => ?_)
    refine r_cVi (pc := 14) (k := 0) (st := []) h [.inl 1] cv_X7_finding wm_X7_104 (c_X7_finding e3) ⟨rfl, rfl, Nat.le_of_ble_eq_true rfl, Nat.le_of_ble_eq_true rfl⟩ hshM_0 rfl rfl (Nat.le_of_ble_eq_true rfl) dX7_fits_14 ?_
    have hf := Option.some.inj hf
    subst hf
    exact hr 17 _ dX7_fits_17
  · refine r_if_lt (pc := 1) (tgt := 12) h dX7_fits_1 (by decide) (fun q => absurd q hc1) (fun _ => ?_)
    refine r_iload_n (pc := 4) h dX7_fits_4 rfl ?_
    refine r_aload_n (pc := 5) h dX7_fits_5 rfl ?_
    refine gf_X7_166 (pc := 6) (v := (u 0 14)) h rfl dX7_fits_6 ?_
    refine p_ite hf (fun hc4 hf => ?_) (fun hc4 hf => ?_)
    · refine r_icmp_lt (pc := 9) (tgt := 18) h dX7_fits_9 (by decide) (fun _ => ?_) (fun q => absurd hc4 q)
      refine r_aload_n (pc := 18) h dX7_fits_18 rfl ?_
      refine r_aload_n (pc := 19) h dX7_fits_19 rfl ?_
      refine gf_X7_50 (pc := 20) h dX7_fits_20 ?_
      refine r_iload_n (pc := 23) h dX7_fits_23 rfl ?_
      refine p_g hf (fun hi5 hf => ?_)
      refine r_iald (pc := 24) (k := 13) (v := (u 13 l1.toNatClampNeg)) h hshM_13 hi5 rfl dX7_fits_24 ?_
      refine r_aload_n (pc := 25) h dX7_fits_25 rfl ?_
      refine gf_X7_53 (pc := 26) h dX7_fits_26 ?_
      refine r_iload_n (pc := 29) h dX7_fits_29 rfl ?_
      refine r_iald (pc := 30) (k := 14) (v := (u 14 l1.toNatClampNeg)) h hshM_14 hi5 rfl dX7_fits_30 ?_
      refine r_aload_n (pc := 31) h dX7_fits_31 rfl ?_
      refine gf_X7_65 (pc := 32) h dX7_fits_32 ?_
      refine r_iload_n (pc := 35) h dX7_fits_35 rfl ?_
      refine r_iald (pc := 36) (k := 18) (v := (u 18 l1.toNatClampNeg)) h hshM_18 hi5 rfl dX7_fits_36 ?_
      refine p_b hf (fun q6 e7 hf => ?_)
      refine r_cVi (pc := 37) (k := 0) (st := []) h [.inl (u 13 l1.toNatClampNeg), .inl (u 14 l1.toNatClampNeg), .inl (u 18 l1.toNatClampNeg)] cv_X7_bestOf wm_X7_159 (c_X7_bestOf e7) ⟨rfl, rfl, Nat.le_of_ble_eq_true rfl, Nat.le_of_ble_eq_true rfl⟩ hshM_0 rfl rfl (Nat.le_of_ble_eq_true rfl) dX7_fits_37 ?_
      refine r_istore_n (pc := 40) (L' := [some (.inr 0), some (.inl l1), some (.inl q6.1)]) h dX7_fits_40 (by decide) rfl ?_
      refine r_iload_n (pc := 41) h dX7_fits_41 rfl ?_
      refine p_ite hf (fun hc8 hf => ?_) (fun hc8 hf => ?_)
      · refine r_if_lt (pc := 42) (tgt := 66) h dX7_fits_42 (by decide) (fun _ => ?_) (fun q => absurd hc8 q)
        refine r_iconst (pc := 66) (v := 0) h dX7_fits_66 (by decide) ?_
        have hf := Option.some.inj hf
        subst hf
        exact hr 67 _ dX7_fits_67
      · refine r_if_lt (pc := 42) (tgt := 66) h dX7_fits_42 (by decide) (fun q => absurd q hc8) (fun _ => ?_)
        refine r_iload_n (pc := 45) h dX7_fits_45 rfl ?_
        refine r_aload_n (pc := 46) h dX7_fits_46 rfl ?_
        refine gf_X7_62 (pc := 47) h dX7_fits_47 ?_
        refine r_iload_n (pc := 50) h dX7_fits_50 rfl ?_
        refine r_iald (pc := 51) (k := 17) (v := (q6.2 17 l1.toNatClampNeg)) h hshM_17 hi5 rfl dX7_fits_51 ?_
        refine r_aload_n (pc := 52) h dX7_fits_52 rfl ?_
        refine gf_X7_59 (pc := 53) h dX7_fits_53 ?_
        refine r_iload_n (pc := 56) h dX7_fits_56 rfl ?_
        refine r_iald (pc := 57) (k := 16) (v := (q6.2 16 l1.toNatClampNeg)) h hshM_16 hi5 rfl dX7_fits_57 ?_
        refine r_isub (pc := 58) h dX7_fits_58 ?_
        refine p_ite hf (fun hc9 hf => ?_) (fun hc9 hf => ?_)
        · refine r_icmp_gt (pc := 59) (tgt := 66) h dX7_fits_59 (by decide) (fun _ => ?_) (fun q => absurd hc9 q)
          refine r_iconst (pc := 66) (v := 0) h dX7_fits_66 (by decide) ?_
          have hf := Option.some.inj hf
          subst hf
          exact hr 67 _ dX7_fits_67
        · refine r_icmp_gt (pc := 59) (tgt := 66) h dX7_fits_59 (by decide) (fun q => absurd q hc9) (fun _ => ?_)
          refine r_iconst (pc := 62) (v := 1) h dX7_fits_62 (by decide) ?_
          refine r_goto (pc := 63) (tgt := 67) h dX7_fits_63 (by decide) ?_
          have hf := Option.some.inj hf
          subst hf
          exact hr 67 _ dX7_fits_67
    · refine r_icmp_lt (pc := 9) (tgt := 18) h dX7_fits_9 (by decide) (fun q => absurd q hc4) (fun _ => ?_)
      refine r_aload_n (pc := 12) h dX7_fits_12 rfl ?_
      refine r_iconst (pc := 13) (v := 1) h dX7_fits_13 (by decide) ?_
      refine p_b hf (fun q10 e11 hf => ?_)
      refine r_cVi (pc := 14) (k := 0) (st := []) h [.inl 1] cv_X7_finding wm_X7_104 (c_X7_finding e11) ⟨rfl, rfl, Nat.le_of_ble_eq_true rfl, Nat.le_of_ble_eq_true rfl⟩ hshM_0 rfl rfl (Nat.le_of_ble_eq_true rfl) dX7_fits_14 ?_
      have hf := Option.some.inj hf
      subst hf
      exact hr 17 _ dX7_fits_17
theorem c_X7_fits {u : St} {l1 : Int32} {r : Int32 × St} (hf : f_X7_fits u l1 = some r) : CtI shM yX7_fits cX7_fits 3 (some .int) rm_X7_fits [.inr 0, .inl l1] u r.1 r.2 := ct_I (by decide +kernel) (Nat.le_of_ble_eq_true rfl) (fun K E h hr => w_X7_fits_0 h hr _ _ hf)
set_option maxRecDepth 100000 in
set_option maxHeartbeats 4000000 in
theorem w_X7_canGo_0 {K : Kx} {E : Ex} (h : Ok shM K E RX7 cX7_canGo 3 rm_X7_canGo) {r : Int32} {u : St} (hr : RetZ shM K E cX7_canGo 3 r u) (l1 l2 : Int32) (hf : f_X7_canGo u l1 l2 = some r) : Vd shM K E 3 0 [some (.inr 0), some (.inl l1), some (.inl l2)] [] u := by
  refine r_aload_n (pc := 0) h dX7_canGo_0 rfl ?_
  refine gf_X7_59 (pc := 1) h dX7_canGo_1 ?_
  refine r_iload_n (pc := 4) h dX7_canGo_4 rfl ?_
  refine p_g hf (fun hi1 hf => ?_)
  refine r_iald (pc := 5) (k := 16) (v := (u 16 l2.toNatClampNeg)) h hshM_16 hi1 rfl dX7_canGo_5 ?_
  refine r_aload_n (pc := 6) h dX7_canGo_6 rfl ?_
  refine gf_X7_62 (pc := 7) h dX7_canGo_7 ?_
  refine r_iload_n (pc := 10) h dX7_canGo_10 rfl ?_
  refine p_g hf (fun hi2 hf => ?_)
  refine r_iald (pc := 11) (k := 17) (v := (u 17 l1.toNatClampNeg)) h hshM_17 hi2 rfl dX7_canGo_11 ?_
  refine r_aload_n (pc := 12) h dX7_canGo_12 rfl ?_
  refine gf_X7_68 (pc := 13) h dX7_canGo_13 ?_
  refine r_bipush (pc := 16) (v := 6) h dX7_canGo_16 (by decide) ?_
  refine r_aload_n (pc := 18) h dX7_canGo_18 rfl ?_
  refine gf_X7_56 (pc := 19) h dX7_canGo_19 ?_
  refine r_iload_n (pc := 22) h dX7_canGo_22 rfl ?_
  refine r_iald (pc := 23) (k := 15) (v := (u 15 l1.toNatClampNeg)) h hshM_15 hi2 rfl dX7_canGo_23 ?_
  refine r_imul (pc := 24) h dX7_canGo_24 ?_
  refine r_aload_n (pc := 25) h dX7_canGo_25 rfl ?_
  refine gf_X7_56 (pc := 26) h dX7_canGo_26 ?_
  refine r_iload_n (pc := 29) h dX7_canGo_29 rfl ?_
  refine r_iald (pc := 30) (k := 15) (v := (u 15 l2.toNatClampNeg)) h hshM_15 hi1 rfl dX7_canGo_30 ?_
  refine r_iadd (pc := 31) h dX7_canGo_31 ?_
  refine p_g hf (fun hi3 hf => ?_)
  refine r_iald (pc := 32) (k := 19) (v := (u 19 ((6 * (u 15 l1.toNatClampNeg)) + (u 15 l2.toNatClampNeg)).toNatClampNeg)) h hshM_19 hi3 rfl dX7_canGo_32 ?_
  refine r_iadd (pc := 33) h dX7_canGo_33 ?_
  refine p_ite hf (fun hc4 hf => ?_) (fun hc4 hf => ?_)
  · refine r_icmp_lt (pc := 34) (tgt := 41) h dX7_canGo_34 (by decide) (fun _ => ?_) (fun q => absurd hc4 q)
    refine r_iconst (pc := 41) (v := 0) h dX7_canGo_41 (by decide) ?_
    have hf := Option.some.inj hf
    subst hf
    exact hr 42 _ dX7_canGo_42 z_0
  · refine r_icmp_lt (pc := 34) (tgt := 41) h dX7_canGo_34 (by decide) (fun q => absurd q hc4) (fun _ => ?_)
    refine r_iconst (pc := 37) (v := 1) h dX7_canGo_37 (by decide) ?_
    refine r_goto (pc := 38) (tgt := 42) h dX7_canGo_38 (by decide) ?_
    have hf := Option.some.inj hf
    subst hf
    exact hr 42 _ dX7_canGo_42 z_1
theorem c_X7_canGo {u : St} {l1 l2 : Int32} {r : Int32} (hf : f_X7_canGo u l1 l2 = some r) : CtI shM yX7_canGo cX7_canGo 3 (some .boolean) rm_X7_canGo [.inr 0, .inl l1, .inl l2] u r u := ct_Z (by decide +kernel) (Nat.le_of_ble_eq_true rfl) (fun K E h hr => w_X7_canGo_0 h hr _ _ hf)
