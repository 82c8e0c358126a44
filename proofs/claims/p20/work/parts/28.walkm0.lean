set_option maxRecDepth 100000 in
set_option maxHeartbeats 4000000 in
theorem w_X7_isIn_0 {K : Kx} {E : Ex} (h : Ok shM K E RX7 cX7_isIn 3 rm_X7_isIn) {r : Int32} {u : St} (hr : RetZ shM K E cX7_isIn 3 r u) (l0 l1 l2 : Int32) (hf : f_X7_isIn u l0 l1 l2 = some r) : Vd shM K E 3 0 [some (.inl l0), some (.inl l1), some (.inl l2)] [] u := by
  refine r_iload_n (pc := 0) h dX7_isIn_0 rfl ?_
  refine r_iload_n (pc := 1) h dX7_isIn_1 rfl ?_
  refine p_ite hf (fun hc1 hf => ?_) (fun hc1 hf => ?_)
  · refine r_icmp_lt (pc := 2) (tgt := 14) h dX7_isIn_2 (by decide) (fun _ => ?_) (fun q => absurd hc1 q)
    refine r_iconst (pc := 14) (v := 0) h dX7_isIn_14 (by decide) ?_
    have hf := Option.some.inj hf
    subst hf
    exact hr 15 _ dX7_isIn_15 z_0
  · refine r_icmp_lt (pc := 2) (tgt := 14) h dX7_isIn_2 (by decide) (fun q => absurd q hc1) (fun _ => ?_)
    refine r_iload_n (pc := 5) h dX7_isIn_5 rfl ?_
    refine r_iload_n (pc := 6) h dX7_isIn_6 rfl ?_
    refine p_ite hf (fun hc2 hf => ?_) (fun hc2 hf => ?_)
    · refine r_icmp_gt (pc := 7) (tgt := 14) h dX7_isIn_7 (by decide) (fun _ => ?_) (fun q => absurd hc2 q)
      refine r_iconst (pc := 14) (v := 0) h dX7_isIn_14 (by decide) ?_
      have hf := Option.some.inj hf
      subst hf
      exact hr 15 _ dX7_isIn_15 z_0
    · refine r_icmp_gt (pc := 7) (tgt := 14) h dX7_isIn_7 (by decide) (fun q => absurd q hc2) (fun _ => ?_)
      refine r_iconst (pc := 10) (v := 1) h dX7_isIn_10 (by decide) ?_
      refine r_goto (pc := 11) (tgt := 15) h dX7_isIn_11 (by decide) ?_
      have hf := Option.some.inj hf
      subst hf
      exact hr 15 _ dX7_isIn_15 z_1
theorem c_X7_isIn {u : St} {l0 l1 l2 : Int32} {r : Int32} (hf : f_X7_isIn u l0 l1 l2 = some r) : CtI shM yX7_isIn cX7_isIn 3 (some .boolean) rm_X7_isIn [.inl l0, .inl l1, .inl l2] u r u := ct_Z (by decide +kernel) (Nat.le_of_ble_eq_true rfl) (fun K E h hr => w_X7_isIn_0 h hr _ _ _ hf)
set_option maxRecDepth 100000 in
set_option maxHeartbeats 4000000 in
theorem w_X7_finding_0 {K : Kx} {E : Ex} (h : Ok shM K E RX7 cX7_finding 2 rm_X7_finding) {r : Int32 × St} (hr : RetI shM K E cX7_finding 2 r.1 r.2) (u : St) (l1 : Int32) (hf : f_X7_finding u l1 = some r) : Vd shM K E 2 0 [some (.inr 0), some (.inl l1)] [] u := by
  refine r_aload_n (pc := 0) h dX7_finding_0 rfl ?_
  refine gf_X7_74 (pc := 1) h dX7_finding_1 ?_
  refine r_iload_n (pc := 4) h dX7_finding_4 rfl ?_
  refine r_dup2 (pc := 5) h dX7_finding_5 ?_
  refine p_g hf (fun hi1 hf => ?_)
  refine r_iald (pc := 6) (k := 21) (v := (u 21 l1.toNatClampNeg)) h hshM_21 hi1 rfl dX7_finding_6 ?_
  refine r_iconst (pc := 7) (v := 1) h dX7_finding_7 (by decide) ?_
  refine r_iadd (pc := 8) h dX7_finding_8 ?_
  refine r_iast (pc := 9) (k := 21) h hshM_21 hi1 dX7_finding_9 ?_
  refine r_ldc (pc := 10) h dX7_finding_10 wc_X7_96 ?_
  refine r_iload_n (pc := 12) h dX7_finding_12 rfl ?_
  refine r_isub (pc := 13) h dX7_finding_13 ?_
  have hf := Option.some.inj hf
  subst hf
  exact hr 14 _ dX7_finding_14
theorem c_X7_finding {u : St} {l1 : Int32} {r : Int32 × St} (hf : f_X7_finding u l1 = some r) : CtI shM yX7_finding cX7_finding 2 (some .int) rm_X7_finding [.inr 0, .inl l1] u r.1 r.2 := ct_I (by decide +kernel) (Nat.le_of_ble_eq_true rfl) (fun K E h hr => w_X7_finding_0 h hr _ _ hf)
set_option maxRecDepth 100000 in
set_option maxHeartbeats 4000000 in
theorem w_X7_piece_150 {K : Kx} {E : Ex} (h : Ok shM K E RX7 cX7_piece 5 rm_X7_piece) {r : Int32 × St} (hr : RetI shM K E cX7_piece 5 r.1 r.2) (u : St) (l1 l2 l3 s0 : Int32) (hf : f_X7_piece_150 u l1 l2 l3 s0 = some r) : Vd shM K E 5 150 [some (.inr 0), some (.inl l1), some (.inl l2), some (.inl l3), none] [.inl s0] u := by
  refine r_istore (pc := 150) (L' := [some (.inr 0), some (.inl l1), some (.inl l2), some (.inl l3), some (.inl s0)]) h dX7_piece_150 (by decide) rfl ?_
  refine r_iload (pc := 152) h dX7_piece_152 rfl ?_
  refine p_ite hf (fun hc1 hf => ?_) (fun hc1 hf => ?_)
  · refine r_if_ne (pc := 154) (tgt := 163) h dX7_piece_154 (by decide) (fun q => absurd hc1 q) (fun _ => ?_)
    refine r_aload_n (pc := 157) h dX7_piece_157 rfl ?_
    refine r_iconst (pc := 158) (v := 1) h dX7_piece_158 (by decide) ?_
    refine p_b hf (fun q6 e7 hf => ?_)
    refine r_cVi (pc := 159) (k := 0) (st := []) h [.inl 1] cv_X7_finding wm_X7_104 (c_X7_finding e7) ⟨rfl, rfl, Nat.le_of_ble_eq_true rfl, Nat.le_of_ble_eq_true rfl⟩ hshM_0 rfl rfl (Nat.le_of_ble_eq_true rfl) dX7_piece_159 ?_
    have hf := Option.some.inj hf
    subst hf
    exact hr 162 _ dX7_piece_162
  · refine r_if_ne (pc := 154) (tgt := 163) h dX7_piece_154 (by decide) (fun _ => ?_) (fun q => absurd q hc1)
    refine r_aload_n (pc := 163) h dX7_piece_163 rfl ?_
    refine gf_X7_97 (pc := 164) (v := (u 0 0)) h rfl dX7_piece_164 ?_
    refine r_bipush (pc := 167) (v := 32) h dX7_piece_167 (by decide) ?_
    refine p_ite hf (fun hc2 hf => ?_) (fun hc2 hf => ?_)
    · refine r_icmp_ne (pc := 169) (tgt := 178) h dX7_piece_169 (by decide) (fun q => absurd hc2 q) (fun _ => ?_)
      refine r_aload_n (pc := 172) h dX7_piece_172 rfl ?_
      refine r_iconst (pc := 173) (v := 4) h dX7_piece_173 (by decide) ?_
      refine p_b hf (fun q4 e5 hf => ?_)
      refine r_cVi (pc := 174) (k := 0) (st := []) h [.inl 4] cv_X7_finding wm_X7_104 (c_X7_finding e5) ⟨rfl, rfl, Nat.le_of_ble_eq_true rfl, Nat.le_of_ble_eq_true rfl⟩ hshM_0 rfl rfl (Nat.le_of_ble_eq_true rfl) dX7_piece_174 ?_
      have hf := Option.some.inj hf
      subst hf
      exact hr 177 _ dX7_piece_177
    · refine r_icmp_ne (pc := 169) (tgt := 178) h dX7_piece_169 (by decide) (fun _ => ?_) (fun q => absurd q hc2)
      refine r_aload_n (pc := 178) h dX7_piece_178 rfl ?_
      refine gf_X7_25 (pc := 179) h dX7_piece_179 ?_
      refine r_aload_n (pc := 182) h dX7_piece_182 rfl ?_
      refine gf_X7_97 (pc := 183) (v := (u 0 0)) h rfl dX7_piece_183 ?_
      refine r_iload_n (pc := 186) h dX7_piece_186 rfl ?_
      refine r_sipush (pc := 187) (v := 1000) h dX7_piece_187 (by decide) ?_
      refine r_idiv (pc := 190) h dX7_piece_190 (by decide) ?_
      refine p_g hf (fun hi3 hf => ?_)
      refine r_iast (pc := 191) (k := 6) h hshM_6 hi3 dX7_piece_191 ?_
      refine r_aload_n (pc := 192) h dX7_piece_192 rfl ?_
      refine gf_X7_13 (pc := 193) h dX7_piece_193 ?_
      refine r_aload_n (pc := 196) h dX7_piece_196 rfl ?_
      refine gf_X7_97 (pc := 197) (v := (u 0 0)) h rfl dX7_piece_197 ?_
      refine r_iload_n (pc := 200) h dX7_piece_200 rfl ?_
      refine r_bipush (pc := 201) (v := 100) h dX7_piece_201 (by decide) ?_
      refine r_idiv (pc := 203) h dX7_piece_203 (by decide) ?_
      refine r_bipush (pc := 204) (v := 10) h dX7_piece_204 (by decide) ?_
      refine r_irem (pc := 206) h dX7_piece_206 (by decide) ?_
      refine r_iast (pc := 207) (k := 2) h hshM_2 hi3 dX7_piece_207 ?_
      refine r_aload_n (pc := 208) h dX7_piece_208 rfl ?_
      refine gf_X7_16 (pc := 209) h dX7_piece_209 ?_
      refine r_aload_n (pc := 212) h dX7_piece_212 rfl ?_
      refine gf_X7_97 (pc := 213) (v := (u 0 0)) h rfl dX7_piece_213 ?_
      refine r_iload_n (pc := 216) h dX7_piece_216 rfl ?_
      refine r_bipush (pc := 217) (v := 10) h dX7_piece_217 (by decide) ?_
      refine r_idiv (pc := 219) h dX7_piece_219 (by decide) ?_
      refine r_bipush (pc := 220) (v := 10) h dX7_piece_220 (by decide) ?_
      refine r_irem (pc := 222) h dX7_piece_222 (by decide) ?_
      refine r_iast (pc := 223) (k := 3) h hshM_3 hi3 dX7_piece_223 ?_
      refine r_aload_n (pc := 224) h dX7_piece_224 rfl ?_
      refine gf_X7_7 (pc := 225) h dX7_piece_225 ?_
      refine r_aload_n (pc := 228) h dX7_piece_228 rfl ?_
      refine gf_X7_97 (pc := 229) (v := (u 0 0)) h rfl dX7_piece_229 ?_
      refine r_iload_n (pc := 232) h dX7_piece_232 rfl ?_
      refine r_bipush (pc := 233) (v := 10) h dX7_piece_233 (by decide) ?_
      refine r_irem (pc := 235) h dX7_piece_235 (by decide) ?_
      refine r_iast (pc := 236) (k := 1) h hshM_1 hi3 dX7_piece_236 ?_
      refine r_aload_n (pc := 237) h dX7_piece_237 rfl ?_
      refine gf_X7_19 (pc := 238) h dX7_piece_238 ?_
      refine r_aload_n (pc := 241) h dX7_piece_241 rfl ?_
      refine gf_X7_97 (pc := 242) (v := (u 0 0)) h rfl dX7_piece_242 ?_
      refine r_iload_n (pc := 245) h dX7_piece_245 rfl ?_
      refine r_bipush (pc := 246) (v := 100) h dX7_piece_246 (by decide) ?_
      refine r_idiv (pc := 248) h dX7_piece_248 (by decide) ?_
      refine r_iast (pc := 249) (k := 4) h hshM_4 hi3 dX7_piece_249 ?_
      refine r_aload_n (pc := 250) h dX7_piece_250 rfl ?_
      refine gf_X7_22 (pc := 251) h dX7_piece_251 ?_
      refine r_aload_n (pc := 254) h dX7_piece_254 rfl ?_
      refine gf_X7_97 (pc := 255) (v := (u 0 0)) h rfl dX7_piece_255 ?_
      refine r_iload_n (pc := 258) h dX7_piece_258 rfl ?_
      refine r_bipush (pc := 259) (v := 100) h dX7_piece_259 (by decide) ?_
      refine r_irem (pc := 261) h dX7_piece_261 (by decide) ?_
      refine r_iast (pc := 262) (k := 5) h hshM_5 hi3 dX7_piece_262 ?_
      refine r_aload_n (pc := 263) h dX7_piece_263 rfl ?_
      refine gf_X7_28 (pc := 264) h dX7_piece_264 ?_
      refine r_aload_n (pc := 267) h dX7_piece_267 rfl ?_
      refine gf_X7_97 (pc := 268) (v := (u 0 0)) h rfl dX7_piece_268 ?_
      refine r_iload_n (pc := 271) h dX7_piece_271 rfl ?_
      refine r_bipush (pc := 272) (v := 10) h dX7_piece_272 (by decide) ?_
      refine r_idiv (pc := 274) h dX7_piece_274 (by decide) ?_
      refine r_iast (pc := 275) (k := 7) h hshM_7 hi3 dX7_piece_275 ?_
      refine r_aload_n (pc := 276) h dX7_piece_276 rfl ?_
      refine gf_X7_31 (pc := 277) h dX7_piece_277 ?_
      refine r_aload_n (pc := 280) h dX7_piece_280 rfl ?_
      refine gf_X7_97 (pc := 281) (v := (u 0 0)) h rfl dX7_piece_281 ?_
      refine r_iload_n (pc := 284) h dX7_piece_284 rfl ?_
      refine r_bipush (pc := 285) (v := 10) h dX7_piece_285 (by decide) ?_
      refine r_irem (pc := 287) h dX7_piece_287 (by decide) ?_
      refine r_iast (pc := 288) (k := 8) h hshM_8 hi3 dX7_piece_288 ?_
      refine r_aload_n (pc := 289) h dX7_piece_289 rfl ?_
      refine r_dup (pc := 290) h dX7_piece_290 ?_
      refine gf_X7_97 (pc := 291) (v := (u 0 0)) h rfl dX7_piece_291 ?_
      refine r_iconst (pc := 294) (v := 1) h dX7_piece_294 (by decide) ?_
      refine r_iadd (pc := 295) h dX7_piece_295 ?_
      refine pf_X7_97 (pc := 296) h dX7_piece_296 ?_
      refine r_aload_n (pc := 299) h dX7_piece_299 rfl ?_
      refine gf_X7_97 (pc := 300) (v := ((u 0 0) + 1)) h rfl dX7_piece_300 ?_
      refine r_iconst (pc := 303) (v := 1) h dX7_piece_303 (by decide) ?_
      refine r_isub (pc := 304) h dX7_piece_304 ?_
      have hf := Option.some.inj hf
      subst hf
      exact hr 305 _ dX7_piece_305
set_option maxRecDepth 100000 in
set_option maxHeartbeats 4000000 in
theorem w_X7_piece_112 {K : Kx} {E : Ex} (h : Ok shM K E RX7 cX7_piece 5 rm_X7_piece) {r : Int32 × St} (hr : RetI shM K E cX7_piece 5 r.1 r.2) (u : St) (l1 l2 l3 s0 s1 s2 : Int32) (hf : f_X7_piece_112 u l1 l2 l3 s0 s1 s2 = some r) : Vd shM K E 5 112 [some (.inr 0), some (.inl l1), some (.inl l2), some (.inl l3), none] [.inl s2, .inl s1, .inl s0] u := by
  refine p_b hf (fun q8 e9 hf => ?_)
  refine r_cSi (pc := 112) (st := []) h [.inl s0, .inl s1, .inl s2] cs_X7_isIn wm_X7_100 (c_X7_isIn e9) ⟨rfl, rfl, Nat.le_of_ble_eq_true rfl, Nat.le_of_ble_eq_true rfl⟩ (Nat.le_of_ble_eq_true rfl) dX7_piece_112 ?_
  refine p_ite hf (fun hc10 hf => ?_) (fun hc10 hf => ?_)
  · refine r_if_eq (pc := 115) (tgt := 149) h dX7_piece_115 (by decide) (fun _ => ?_) (fun q => absurd hc10 q)
    refine r_iconst (pc := 149) (v := 0) h dX7_piece_149 (by decide) ?_
    exact w_X7_piece_150 h hr _ _ _ _ _ hf
  · refine r_if_eq (pc := 115) (tgt := 149) h dX7_piece_115 (by decide) (fun q => absurd q hc10) (fun _ => ?_)
    refine r_iload_n (pc := 118) h dX7_piece_118 rfl ?_
    refine r_bipush (pc := 119) (v := 10) h dX7_piece_119 (by decide) ?_
    refine r_idiv (pc := 121) h dX7_piece_121 (by decide) ?_
    refine r_bipush (pc := 122) (v := 30) h dX7_piece_122 (by decide) ?_
    refine r_bipush (pc := 124) (v := 60) h dX7_piece_124 (by decide) ?_
    refine p_b hf (fun q11 e12 hf => ?_)
    refine r_cSi (pc := 126) (st := []) h [.inl (l3 / 10), .inl 30, .inl 60] cs_X7_isIn wm_X7_100 (c_X7_isIn e12) ⟨rfl, rfl, Nat.le_of_ble_eq_true rfl, Nat.le_of_ble_eq_true rfl⟩ (Nat.le_of_ble_eq_true rfl) dX7_piece_126 ?_
    refine p_ite hf (fun hc13 hf => ?_) (fun hc13 hf => ?_)
    · refine r_if_eq (pc := 129) (tgt := 149) h dX7_piece_129 (by decide) (fun _ => ?_) (fun q => absurd hc13 q)
      refine r_iconst (pc := 149) (v := 0) h dX7_piece_149 (by decide) ?_
      exact w_X7_piece_150 h hr _ _ _ _ _ hf
    · refine r_if_eq (pc := 129) (tgt := 149) h dX7_piece_129 (by decide) (fun q => absurd q hc13) (fun _ => ?_)
      refine r_iload_n (pc := 132) h dX7_piece_132 rfl ?_
      refine r_bipush (pc := 133) (v := 10) h dX7_piece_133 (by decide) ?_
      refine r_irem (pc := 135) h dX7_piece_135 (by decide) ?_
      refine r_iconst (pc := 136) (v := 0) h dX7_piece_136 (by decide) ?_
      refine r_bipush (pc := 137) (v := 6) h dX7_piece_137 (by decide) ?_
      refine p_b hf (fun q14 e15 hf => ?_)
      refine r_cSi (pc := 139) (st := []) h [.inl (l3 - l3 / 10 * 10), .inl 0, .inl 6] cs_X7_isIn wm_X7_100 (c_X7_isIn e15) ⟨rfl, rfl, Nat.le_of_ble_eq_true rfl, Nat.le_of_ble_eq_true rfl⟩ (Nat.le_of_ble_eq_true rfl) dX7_piece_139 ?_
      refine p_ite hf (fun hc16 hf => ?_) (fun hc16 hf => ?_)
      · refine r_if_eq (pc := 142) (tgt := 149) h dX7_piece_142 (by decide) (fun _ => ?_) (fun q => absurd hc16 q)
        refine r_iconst (pc := 149) (v := 0) h dX7_piece_149 (by decide) ?_
        exact w_X7_piece_150 h hr _ _ _ _ _ hf
      · refine r_if_eq (pc := 142) (tgt := 149) h dX7_piece_142 (by decide) (fun q => absurd q hc16) (fun _ => ?_)
        refine r_iconst (pc := 145) (v := 1) h dX7_piece_145 (by decide) ?_
        refine r_goto (pc := 146) (tgt := 150) h dX7_piece_146 (by decide) ?_
        exact w_X7_piece_150 h hr _ _ _ _ _ hf
set_option maxRecDepth 100000 in
set_option maxHeartbeats 4000000 in
theorem w_X7_piece_73 {K : Kx} {E : Ex} (h : Ok shM K E RX7 cX7_piece 5 rm_X7_piece) {r : Int32 × St} (hr : RetI shM K E cX7_piece 5 r.1 r.2) (u : St) (l1 l2 l3 s0 : Int32) (hf : f_X7_piece_73 u l1 l2 l3 s0 = some r) : Vd shM K E 5 73 [some (.inr 0), some (.inl l1), some (.inl l2), some (.inl l3), none] [.inl s0] u := by
  refine r_istore (pc := 73) (L' := [some (.inr 0), some (.inl l1), some (.inl l2), some (.inl l3), some (.inl s0)]) h dX7_piece_73 (by decide) rfl ?_
  refine r_iload (pc := 75) h dX7_piece_75 rfl ?_
  refine p_ite hf (fun hc17 hf => ?_) (fun hc17 hf => ?_)
  · refine r_if_eq (pc := 77) (tgt := 149) h dX7_piece_77 (by decide) (fun _ => ?_) (fun q => absurd hc17 q)
    refine r_iconst (pc := 149) (v := 0) h dX7_piece_149 (by decide) ?_
    refine r_le [some (.inr 0), some (.inl l1), some (.inl l2), some (.inl l3), none] ⟨rfl, ⟨rfl, ⟨rfl, ⟨rfl, trivial⟩⟩⟩⟩ ?_
    exact w_X7_piece_150 h hr _ _ _ _ _ hf
  · refine r_if_eq (pc := 77) (tgt := 149) h dX7_piece_77 (by decide) (fun q => absurd q hc17) (fun _ => ?_)
    refine r_iload_n (pc := 80) h dX7_piece_80 rfl ?_
    refine r_bipush (pc := 81) (v := 100) h dX7_piece_81 (by decide) ?_
    refine r_idiv (pc := 83) h dX7_piece_83 (by decide) ?_
    refine r_iconst (pc := 84) (v := 1) h dX7_piece_84 (by decide) ?_
    refine r_bipush (pc := 85) (v := 60) h dX7_piece_85 (by decide) ?_
    refine p_b hf (fun q18 e19 hf => ?_)
    refine r_cSi (pc := 87) (st := []) h [.inl (l2 / 100), .inl 1, .inl 60] cs_X7_isIn wm_X7_100 (c_X7_isIn e19) ⟨rfl, rfl, Nat.le_of_ble_eq_true rfl, Nat.le_of_ble_eq_true rfl⟩ (Nat.le_of_ble_eq_true rfl) dX7_piece_87 ?_
    refine p_ite hf (fun hc20 hf => ?_) (fun hc20 hf => ?_)
    · refine r_if_eq (pc := 90) (tgt := 149) h dX7_piece_90 (by decide) (fun _ => ?_) (fun q => absurd hc20 q)
      refine r_iconst (pc := 149) (v := 0) h dX7_piece_149 (by decide) ?_
      refine r_le [some (.inr 0), some (.inl l1), some (.inl l2), some (.inl l3), none] ⟨rfl, ⟨rfl, ⟨rfl, ⟨rfl, trivial⟩⟩⟩⟩ ?_
      exact w_X7_piece_150 h hr _ _ _ _ _ hf
    · refine r_if_eq (pc := 90) (tgt := 149) h dX7_piece_90 (by decide) (fun q => absurd q hc20) (fun _ => ?_)
      refine r_iload_n (pc := 93) h dX7_piece_93 rfl ?_
      refine r_bipush (pc := 94) (v := 100) h dX7_piece_94 (by decide) ?_
      refine r_irem (pc := 96) h dX7_piece_96 (by decide) ?_
      refine r_iconst (pc := 97) (v := 1) h dX7_piece_97 (by decide) ?_
      refine r_iload_n (pc := 98) h dX7_piece_98 rfl ?_
      refine r_bipush (pc := 99) (v := 10) h dX7_piece_99 (by decide) ?_
      refine r_irem (pc := 101) h dX7_piece_101 (by decide) ?_
      refine r_iconst (pc := 102) (v := 2) h dX7_piece_102 (by decide) ?_
      refine p_ite hf (fun hc21 hf => ?_) (fun hc21 hf => ?_)
      · refine r_icmp_ne (pc := 103) (tgt := 110) h dX7_piece_103 (by decide) (fun q => absurd hc21 q) (fun _ => ?_)
        refine r_iconst (pc := 106) (v := 1) h dX7_piece_106 (by decide) ?_
        refine r_goto (pc := 107) (tgt := 112) h dX7_piece_107 (by decide) ?_
        refine r_le [some (.inr 0), some (.inl l1), some (.inl l2), some (.inl l3), none] ⟨rfl, ⟨rfl, ⟨rfl, ⟨rfl, trivial⟩⟩⟩⟩ ?_
        exact w_X7_piece_112 h hr _ _ _ _ _ _ _ hf
      · refine r_icmp_ne (pc := 103) (tgt := 110) h dX7_piece_103 (by decide) (fun _ => ?_) (fun q => absurd q hc21)
        refine r_bipush (pc := 110) (v := 60) h dX7_piece_110 (by decide) ?_
        refine r_le [some (.inr 0), some (.inl l1), some (.inl l2), some (.inl l3), none] ⟨rfl, ⟨rfl, ⟨rfl, ⟨rfl, trivial⟩⟩⟩⟩ ?_
        exact w_X7_piece_112 h hr _ _ _ _ _ _ _ hf
set_option maxRecDepth 100000 in
set_option maxHeartbeats 4000000 in
theorem w_X7_piece_0 {K : Kx} {E : Ex} (h : Ok shM K E RX7 cX7_piece 5 rm_X7_piece) {r : Int32 × St} (hr : RetI shM K E cX7_piece 5 r.1 r.2) (u : St) (l1 l2 l3 : Int32) (hf : f_X7_piece u l1 l2 l3 = some r) : Vd shM K E 5 0 [some (.inr 0), some (.inl l1), some (.inl l2), some (.inl l3), none] [] u := by
  refine r_iload_n (pc := 0) h dX7_piece_0 rfl ?_
  refine p_ite hf (fun hc22 hf => ?_) (fun hc22 hf => ?_)
  · refine r_if_lt (pc := 1) (tgt := 72) h dX7_piece_1 (by decide) (fun _ => ?_) (fun q => absurd hc22 q)
    refine r_iconst (pc := 72) (v := 0) h dX7_piece_72 (by decide) ?_
    exact w_X7_piece_73 h hr _ _ _ _ _ hf
  · refine r_if_lt (pc := 1) (tgt := 72) h dX7_piece_1 (by decide) (fun q => absurd q hc22) (fun _ => ?_)
    refine r_iload_n (pc := 4) h dX7_piece_4 rfl ?_
    refine p_ite hf (fun hc23 hf => ?_) (fun hc23 hf => ?_)
    · refine r_if_lt (pc := 5) (tgt := 72) h dX7_piece_5 (by decide) (fun _ => ?_) (fun q => absurd hc23 q)
      refine r_iconst (pc := 72) (v := 0) h dX7_piece_72 (by decide) ?_
      exact w_X7_piece_73 h hr _ _ _ _ _ hf
    · refine r_if_lt (pc := 5) (tgt := 72) h dX7_piece_5 (by decide) (fun q => absurd q hc23) (fun _ => ?_)
      refine r_iload_n (pc := 8) h dX7_piece_8 rfl ?_
      refine p_ite hf (fun hc24 hf => ?_) (fun hc24 hf => ?_)
      · refine r_if_lt (pc := 9) (tgt := 72) h dX7_piece_9 (by decide) (fun _ => ?_) (fun q => absurd hc24 q)
        refine r_iconst (pc := 72) (v := 0) h dX7_piece_72 (by decide) ?_
        exact w_X7_piece_73 h hr _ _ _ _ _ hf
      · refine r_if_lt (pc := 9) (tgt := 72) h dX7_piece_9 (by decide) (fun q => absurd q hc24) (fun _ => ?_)
        refine r_iload_n (pc := 12) h dX7_piece_12 rfl ?_
        refine r_sipush (pc := 13) (v := 1000) h dX7_piece_13 (by decide) ?_
        refine r_idiv (pc := 16) h dX7_piece_16 (by decide) ?_
        refine r_iconst (pc := 17) (v := 0) h dX7_piece_17 (by decide) ?_
        refine r_bipush (pc := 18) (v := 15) h dX7_piece_18 (by decide) ?_
        refine p_b hf (fun q25 e26 hf => ?_)
        refine r_cSi (pc := 20) (st := []) h [.inl (l1 / 1000), .inl 0, .inl 15] cs_X7_isIn wm_X7_100 (c_X7_isIn e26) ⟨rfl, rfl, Nat.le_of_ble_eq_true rfl, Nat.le_of_ble_eq_true rfl⟩ (Nat.le_of_ble_eq_true rfl) dX7_piece_20 ?_
        refine p_ite hf (fun hc27 hf => ?_) (fun hc27 hf => ?_)
        · refine r_if_eq (pc := 23) (tgt := 72) h dX7_piece_23 (by decide) (fun _ => ?_) (fun q => absurd hc27 q)
          refine r_iconst (pc := 72) (v := 0) h dX7_piece_72 (by decide) ?_
          exact w_X7_piece_73 h hr _ _ _ _ _ hf
        · refine r_if_eq (pc := 23) (tgt := 72) h dX7_piece_23 (by decide) (fun q => absurd q hc27) (fun _ => ?_)
          refine r_iload_n (pc := 26) h dX7_piece_26 rfl ?_
          refine r_bipush (pc := 27) (v := 100) h dX7_piece_27 (by decide) ?_
          refine r_idiv (pc := 29) h dX7_piece_29 (by decide) ?_
          refine r_bipush (pc := 30) (v := 10) h dX7_piece_30 (by decide) ?_
          refine r_irem (pc := 32) h dX7_piece_32 (by decide) ?_
          refine r_iconst (pc := 33) (v := 0) h dX7_piece_33 (by decide) ?_
          refine r_iconst (pc := 34) (v := 5) h dX7_piece_34 (by decide) ?_
          refine p_b hf (fun q28 e29 hf => ?_)
          refine r_cSi (pc := 35) (st := []) h [.inl ((l1 / 100) - (l1 / 100) / 10 * 10), .inl 0, .inl 5] cs_X7_isIn wm_X7_100 (c_X7_isIn e29) ⟨rfl, rfl, Nat.le_of_ble_eq_true rfl, Nat.le_of_ble_eq_true rfl⟩ (Nat.le_of_ble_eq_true rfl) dX7_piece_35 ?_
          refine p_ite hf (fun hc30 hf => ?_) (fun hc30 hf => ?_)
          · refine r_if_eq (pc := 38) (tgt := 72) h dX7_piece_38 (by decide) (fun _ => ?_) (fun q => absurd hc30 q)
            refine r_iconst (pc := 72) (v := 0) h dX7_piece_72 (by decide) ?_
            exact w_X7_piece_73 h hr _ _ _ _ _ hf
          · refine r_if_eq (pc := 38) (tgt := 72) h dX7_piece_38 (by decide) (fun q => absurd q hc30) (fun _ => ?_)
            refine r_iload_n (pc := 41) h dX7_piece_41 rfl ?_
            refine r_bipush (pc := 42) (v := 10) h dX7_piece_42 (by decide) ?_
            refine r_idiv (pc := 44) h dX7_piece_44 (by decide) ?_
            refine r_bipush (pc := 45) (v := 10) h dX7_piece_45 (by decide) ?_
            refine r_irem (pc := 47) h dX7_piece_47 (by decide) ?_
            refine r_iconst (pc := 48) (v := 1) h dX7_piece_48 (by decide) ?_
            refine r_iconst (pc := 49) (v := 5) h dX7_piece_49 (by decide) ?_
            refine p_b hf (fun q31 e32 hf => ?_)
            refine r_cSi (pc := 50) (st := []) h [.inl ((l1 / 10) - (l1 / 10) / 10 * 10), .inl 1, .inl 5] cs_X7_isIn wm_X7_100 (c_X7_isIn e32) ⟨rfl, rfl, Nat.le_of_ble_eq_true rfl, Nat.le_of_ble_eq_true rfl⟩ (Nat.le_of_ble_eq_true rfl) dX7_piece_50 ?_
            refine p_ite hf (fun hc33 hf => ?_) (fun hc33 hf => ?_)
            · refine r_if_eq (pc := 53) (tgt := 72) h dX7_piece_53 (by decide) (fun _ => ?_) (fun q => absurd hc33 q)
              refine r_iconst (pc := 72) (v := 0) h dX7_piece_72 (by decide) ?_
              exact w_X7_piece_73 h hr _ _ _ _ _ hf
            · refine r_if_eq (pc := 53) (tgt := 72) h dX7_piece_53 (by decide) (fun q => absurd q hc33) (fun _ => ?_)
              refine r_iload_n (pc := 56) h dX7_piece_56 rfl ?_
              refine r_bipush (pc := 57) (v := 10) h dX7_piece_57 (by decide) ?_
              refine r_irem (pc := 59) h dX7_piece_59 (by decide) ?_
              refine r_iconst (pc := 60) (v := 0) h dX7_piece_60 (by decide) ?_
              refine r_iconst (pc := 61) (v := 2) h dX7_piece_61 (by decide) ?_
              refine p_b hf (fun q34 e35 hf => ?_)
              refine r_cSi (pc := 62) (st := []) h [.inl (l1 - l1 / 10 * 10), .inl 0, .inl 2] cs_X7_isIn wm_X7_100 (c_X7_isIn e35) ⟨rfl, rfl, Nat.le_of_ble_eq_true rfl, Nat.le_of_ble_eq_true rfl⟩ (Nat.le_of_ble_eq_true rfl) dX7_piece_62 ?_
              refine p_ite hf (fun hc36 hf => ?_) (fun hc36 hf => ?_)
              · refine r_if_eq (pc := 65) (tgt := 72) h dX7_piece_65 (by decide) (fun _ => ?_) (fun q => absurd hc36 q)
                refine r_iconst (pc := 72) (v := 0) h dX7_piece_72 (by decide) ?_
                exact w_X7_piece_73 h hr _ _ _ _ _ hf
              · refine r_if_eq (pc := 65) (tgt := 72) h dX7_piece_65 (by decide) (fun q => absurd q hc36) (fun _ => ?_)
                refine r_iconst (pc := 68) (v := 1) h dX7_piece_68 (by decide) ?_
                refine r_goto (pc := 69) (tgt := 73) h dX7_piece_69 (by decide) ?_
                exact w_X7_piece_73 h hr _ _ _ _ _ hf
theorem c_X7_piece {u : St} {l1 l2 l3 : Int32} {r : Int32 × St} (hf : f_X7_piece u l1 l2 l3 = some r) : CtI shM yX7_piece cX7_piece 5 (some .int) rm_X7_piece [.inr 0, .inl l1, .inl l2, .inl l3] u r.1 r.2 := ct_I (by decide +kernel) (Nat.le_of_ble_eq_true rfl) (fun K E h hr => w_X7_piece_0 h hr _ _ _ _ hf)
set_option maxRecDepth 100000 in
set_option maxHeartbeats 4000000 in
theorem w_X7_isPiece_0 {K : Kx} {E : Ex} (h : Ok shM K E RX7 cX7_isPiece 2 rm_X7_isPiece) {r : Int32} {u : St} (hr : RetZ shM K E cX7_isPiece 2 r u) (l1 : Int32) (hf : f_X7_isPiece u l1 = some r) : Vd shM K E 2 0 [some (.inr 0), some (.inl l1)] [] u := by
  refine r_iload_n (pc := 0) h dX7_isPiece_0 rfl ?_
  refine p_ite hf (fun hc1 hf => ?_) (fun hc1 hf => ?_)
  · refine r_if_lt (pc := 1) (tgt := 16) h dX7_isPiece_1 (by decide) (fun _ => ?_) (fun q => absurd hc1 q)
    refine r_iconst (pc := 16) (v := 0) h dX7_isPiece_16 (by decide) ?_
    have hf := Option.some.inj hf
    subst hf
    exact hr 17 _ dX7_isPiece_17 z_0
  · refine r_if_lt (pc := 1) (tgt := 16) h dX7_isPiece_1 (by decide) (fun q => absurd q hc1) (fun _ => ?_)
    refine r_iload_n (pc := 4) h dX7_isPiece_4 rfl ?_
    refine r_aload_n (pc := 5) h dX7_isPiece_5 rfl ?_
    refine gf_X7_97 (pc := 6) (v := (u 0 0)) h rfl dX7_isPiece_6 ?_
    refine p_ite hf (fun hc2 hf => ?_) (fun hc2 hf => ?_)
    · refine r_icmp_ge (pc := 9) (tgt := 16) h dX7_isPiece_9 (by decide) (fun _ => ?_) (fun q => absurd hc2 q)
      refine r_iconst (pc := 16) (v := 0) h dX7_isPiece_16 (by decide) ?_
      have hf := Option.some.inj hf
      subst hf
      exact hr 17 _ dX7_isPiece_17 z_0
    · refine r_icmp_ge (pc := 9) (tgt := 16) h dX7_isPiece_9 (by decide) (fun q => absurd q hc2) (fun _ => ?_)
      refine r_iconst (pc := 12) (v := 1) h dX7_isPiece_12 (by decide) ?_
      refine r_goto (pc := 13) (tgt := 17) h dX7_isPiece_13 (by decide) ?_
      have hf := Option.some.inj hf
      subst hf
      exact hr 17 _ dX7_isPiece_17 z_1
theorem c_X7_isPiece {u : St} {l1 : Int32} {r : Int32} (hf : f_X7_isPiece u l1 = some r) : CtI shM yX7_isPiece cX7_isPiece 2 (some .boolean) rm_X7_isPiece [.inr 0, .inl l1] u r u := ct_Z (by decide +kernel) (Nat.le_of_ble_eq_true rfl) (fun K E h hr => w_X7_isPiece_0 h hr _ hf)
set_option maxRecDepth 100000 in
set_option maxHeartbeats 4000000 in
theorem w_X7_as_0 {K : Kx} {E : Ex} (h : Ok shM K E RX7 cX7_as 3 rm_X7_as) {r : Int32 × St} (hr : RetI shM K E cX7_as 3 r.1 r.2) (u : St) (l1 l2 : Int32) (hf : f_X7_as u l1 l2 = some r) : Vd shM K E 3 0 [some (.inr 0), some (.inl l1), some (.inl l2)] [] u := by
  refine r_aload_n (pc := 0) h dX7_as_0 rfl ?_
  refine r_iload_n (pc := 1) h dX7_as_1 rfl ?_
  refine p_b hf (fun q1 e2 hf => ?_)
  refine r_cVi (pc := 2) (k := 0) (st := []) h [.inl l1] cv_X7_isPiece wm_X7_108 (c_X7_isPiece e2) ⟨rfl, rfl, Nat.le_of_ble_eq_true rfl, Nat.le_of_ble_eq_true rfl⟩ hshM_0 rfl rfl (Nat.le_of_ble_eq_true rfl) dX7_as_2 ?_
  refine p_ite hf (fun hc3 hf => ?_) (fun hc3 hf => ?_)
  · refine r_if_eq (pc := 5) (tgt := 17) h dX7_as_5 (by decide) (fun _ => ?_) (fun q => absurd hc3 q)
    refine r_aload_n (pc := 17) h dX7_as_17 rfl ?_
    refine r_iconst (pc := 18) (v := 1) h dX7_as_18 (by decide) ?_
    refine p_b hf (fun q4 e5 hf => ?_)
    refine r_cVi (pc := 19) (k := 0) (st := []) h [.inl 1] cv_X7_finding wm_X7_104 (c_X7_finding e5) ⟨rfl, rfl, Nat.le_of_ble_eq_true rfl, Nat.le_of_ble_eq_true rfl⟩ hshM_0 rfl rfl (Nat.le_of_ble_eq_true rfl) dX7_as_19 ?_
    have hf := Option.some.inj hf
    subst hf
    exact hr 22 _ dX7_as_22
  · refine r_if_eq (pc := 5) (tgt := 17) h dX7_as_5 (by decide) (fun q => absurd q hc3) (fun _ => ?_)
    refine r_iload_n (pc := 8) h dX7_as_8 rfl ?_
    refine r_iconst (pc := 9) (v := 0) h dX7_as_9 (by decide) ?_
    refine r_iconst (pc := 10) (v := 2) h dX7_as_10 (by decide) ?_
    refine p_b hf (fun q6 e7 hf => ?_)
    refine r_cSi (pc := 11) (st := []) h [.inl l2, .inl 0, .inl 2] cs_X7_isIn wm_X7_100 (c_X7_isIn e7) ⟨rfl, rfl, Nat.le_of_ble_eq_true rfl, Nat.le_of_ble_eq_true rfl⟩ (Nat.le_of_ble_eq_true rfl) dX7_as_11 ?_
    refine p_ite hf (fun hc8 hf => ?_) (fun hc8 hf => ?_)
    · refine r_if_ne (pc := 14) (tgt := 23) h dX7_as_14 (by decide) (fun q => absurd hc8 q) (fun _ => ?_)
      refine r_aload_n (pc := 17) h dX7_as_17 rfl ?_
      refine r_iconst (pc := 18) (v := 1) h dX7_as_18 (by decide) ?_
      refine p_b hf (fun q15 e16 hf => ?_)
      refine r_cVi (pc := 19) (k := 0) (st := []) h [.inl 1] cv_X7_finding wm_X7_104 (c_X7_finding e16) ⟨rfl, rfl, Nat.le_of_ble_eq_true rfl, Nat.le_of_ble_eq_true rfl⟩ hshM_0 rfl rfl (Nat.le_of_ble_eq_true rfl) dX7_as_19 ?_
      have hf := Option.some.inj hf
      subst hf
      exact hr 22 _ dX7_as_22
    · refine r_if_ne (pc := 14) (tgt := 23) h dX7_as_14 (by decide) (fun _ => ?_) (fun q => absurd q hc8)
      refine r_iload_n (pc := 23) h dX7_as_23 rfl ?_
      refine p_ite hf (fun hc9 hf => ?_) (fun hc9 hf => ?_)
      · refine r_if_eq (pc := 24) (tgt := 37) h dX7_as_24 (by decide) (fun _ => ?_) (fun q => absurd hc9 q)
        refine r_aload_n (pc := 37) h dX7_as_37 rfl ?_
        refine gf_X7_13 (pc := 38) h dX7_as_38 ?_
        refine r_iload_n (pc := 41) h dX7_as_41 rfl ?_
        refine p_g hf (fun hi10 hf => ?_)
        refine r_iald (pc := 42) (k := 2) (v := (u 2 l1.toNatClampNeg)) h hshM_2 hi10 rfl dX7_as_42 ?_
        refine r_goto (pc := 43) (tgt := 51) h dX7_as_43 (by decide) ?_
        have hf := Option.some.inj hf
        subst hf
        exact hr 51 _ dX7_as_51
      · refine r_if_eq (pc := 24) (tgt := 37) h dX7_as_24 (by decide) (fun q => absurd q hc9) (fun _ => ?_)
        refine r_aload_n (pc := 27) h dX7_as_27 rfl ?_
        refine gf_X7_7 (pc := 28) h dX7_as_28 ?_
        refine r_iload_n (pc := 31) h dX7_as_31 rfl ?_
        refine p_g hf (fun hi11 hf => ?_)
        refine r_iald (pc := 32) (k := 1) (v := (u 1 l1.toNatClampNeg)) h hshM_1 hi11 rfl dX7_as_32 ?_
        refine r_iload_n (pc := 33) h dX7_as_33 rfl ?_
        refine p_ite hf (fun hc12 hf => ?_) (fun hc12 hf => ?_)
        · refine r_icmp_ne (pc := 34) (tgt := 46) h dX7_as_34 (by decide) (fun q => absurd hc12 q) (fun _ => ?_)
          refine r_aload_n (pc := 37) h dX7_as_37 rfl ?_
          refine gf_X7_13 (pc := 38) h dX7_as_38 ?_
          refine r_iload_n (pc := 41) h dX7_as_41 rfl ?_
          refine r_iald (pc := 42) (k := 2) (v := (u 2 l1.toNatClampNeg)) h hshM_2 hi11 rfl dX7_as_42 ?_
          refine r_goto (pc := 43) (tgt := 51) h dX7_as_43 (by decide) ?_
          have hf := Option.some.inj hf
          subst hf
          exact hr 51 _ dX7_as_51
        · refine r_icmp_ne (pc := 34) (tgt := 46) h dX7_as_34 (by decide) (fun _ => ?_) (fun q => absurd q hc12)
          refine r_aload_n (pc := 46) h dX7_as_46 rfl ?_
          refine r_iconst (pc := 47) (v := 5) h dX7_as_47 (by decide) ?_
          refine p_b hf (fun q13 e14 hf => ?_)
          refine r_cVi (pc := 48) (k := 0) (st := []) h [.inl 5] cv_X7_finding wm_X7_104 (c_X7_finding e14) ⟨rfl, rfl, Nat.le_of_ble_eq_true rfl, Nat.le_of_ble_eq_true rfl⟩ hshM_0 rfl rfl (Nat.le_of_ble_eq_true rfl) dX7_as_48 ?_
          have hf := Option.some.inj hf
          subst hf
          exact hr 51 _ dX7_as_51
theorem c_X7_as {u : St} {l1 l2 : Int32} {r : Int32 × St} (hf : f_X7_as u l1 l2 = some r) : CtI shM yX7_as cX7_as 3 (some .int) rm_X7_as [.inr 0, .inl l1, .inl l2] u r.1 r.2 := ct_I (by decide +kernel) (Nat.le_of_ble_eq_true rfl) (fun K E h hr => w_X7_as_0 h hr _ _ _ hf)
set_option maxRecDepth 100000 in
set_option maxHeartbeats 4000000 in
theorem w_X7_about_0 {K : Kx} {E : Ex} (h : Ok shM K E RX7 cX7_about 3 rm_X7_about) {r : Int32 × St} (hr : RetI shM K E cX7_about 3 r.1 r.2) (u : St) (l1 l2 : Int32) (hf : f_X7_about u l1 l2 = some r) : Vd shM K E 3 0 [some (.inr 0), some (.inl l1), some (.inl l2)] [] u := by
  refine r_aload_n (pc := 0) h dX7_about_0 rfl ?_
  refine r_iload_n (pc := 1) h dX7_about_1 rfl ?_
  refine p_b hf (fun q1 e2 hf => ?_)
  refine r_cVi (pc := 2) (k := 0) (st := []) h [.inl l1] cv_X7_isPiece wm_X7_108 (c_X7_isPiece e2) ⟨rfl, rfl, Nat.le_of_ble_eq_true rfl, Nat.le_of_ble_eq_true rfl⟩ hshM_0 rfl rfl (Nat.le_of_ble_eq_true rfl) dX7_about_2 ?_
  refine p_ite hf (fun hc3 hf => ?_) (fun hc3 hf => ?_)
  · refine r_if_eq (pc := 5) (tgt := 18) h dX7_about_5 (by decide) (fun _ => ?_) (fun q => absurd hc3 q)
    refine r_aload_n (pc := 18) h dX7_about_18 rfl ?_
    refine r_iconst (pc := 19) (v := 1) h dX7_about_19 (by decide) ?_
    refine p_b hf (fun q4 e5 hf => ?_)
    refine r_cVi (pc := 20) (k := 0) (st := []) h [.inl 1] cv_X7_finding wm_X7_104 (c_X7_finding e5) ⟨rfl, rfl, Nat.le_of_ble_eq_true rfl, Nat.le_of_ble_eq_true rfl⟩ hshM_0 rfl rfl (Nat.le_of_ble_eq_true rfl) dX7_about_20 ?_
    have hf := Option.some.inj hf
    subst hf
    exact hr 23 _ dX7_about_23
  · refine r_if_eq (pc := 5) (tgt := 18) h dX7_about_5 (by decide) (fun q => absurd q hc3) (fun _ => ?_)
    refine r_iload_n (pc := 8) h dX7_about_8 rfl ?_
    refine r_iconst (pc := 9) (v := 0) h dX7_about_9 (by decide) ?_
    refine r_bipush (pc := 10) (v := 9) h dX7_about_10 (by decide) ?_
    refine p_b hf (fun q6 e7 hf => ?_)
    refine r_cSi (pc := 12) (st := []) h [.inl l2, .inl 0, .inl 9] cs_X7_isIn wm_X7_100 (c_X7_isIn e7) ⟨rfl, rfl, Nat.le_of_ble_eq_true rfl, Nat.le_of_ble_eq_true rfl⟩ (Nat.le_of_ble_eq_true rfl) dX7_about_12 ?_
    refine p_ite hf (fun hc8 hf => ?_) (fun hc8 hf => ?_)
    · refine r_if_ne (pc := 15) (tgt := 24) h dX7_about_15 (by decide) (fun q => absurd hc8 q) (fun _ => ?_)
      refine r_aload_n (pc := 18) h dX7_about_18 rfl ?_
      refine r_iconst (pc := 19) (v := 1) h dX7_about_19 (by decide) ?_
      refine p_b hf (fun q30 e31 hf => ?_)
      refine r_cVi (pc := 20) (k := 0) (st := []) h [.inl 1] cv_X7_finding wm_X7_104 (c_X7_finding e31) ⟨rfl, rfl, Nat.le_of_ble_eq_true rfl, Nat.le_of_ble_eq_true rfl⟩ hshM_0 rfl rfl (Nat.le_of_ble_eq_true rfl) dX7_about_20 ?_
      have hf := Option.some.inj hf
      subst hf
      exact hr 23 _ dX7_about_23
    · refine r_if_ne (pc := 15) (tgt := 24) h dX7_about_15 (by decide) (fun _ => ?_) (fun q => absurd q hc8)
      refine r_iload_n (pc := 24) h dX7_about_24 rfl ?_
      refine p_ite hf (fun hc9 hf => ?_) (fun hc9 hf => ?_)
      · refine r_tIn (pc := 25) (tgt := 76) h dX7_about_25 (by rw [hc9]; decide) (by rw [hc9]; decide) (by rw [hc9]; rfl) (by decide) ?_
        refine r_aload_n (pc := 76) h dX7_about_76 rfl ?_
        refine gf_X7_7 (pc := 77) h dX7_about_77 ?_
        refine r_iload_n (pc := 80) h dX7_about_80 rfl ?_
        refine p_g hf (fun hi10 hf => ?_)
        refine r_iald (pc := 81) (k := 1) (v := (u 1 l1.toNatClampNeg)) h hshM_1 hi10 rfl dX7_about_81 ?_
        have hf := Option.some.inj hf
        subst hf
        exact hr 82 _ dX7_about_82
      · refine p_ite hf (fun hc11 hf => ?_) (fun hc11 hf => ?_)
        · refine r_tIn (pc := 25) (tgt := 83) h dX7_about_25 (by rw [hc11]; decide) (by rw [hc11]; decide) (by rw [hc11]; rfl) (by decide) ?_
          refine r_aload_n (pc := 83) h dX7_about_83 rfl ?_
          refine gf_X7_13 (pc := 84) h dX7_about_84 ?_
          refine r_iload_n (pc := 87) h dX7_about_87 rfl ?_
          refine p_g hf (fun hi12 hf => ?_)
          refine r_iald (pc := 88) (k := 2) (v := (u 2 l1.toNatClampNeg)) h hshM_2 hi12 rfl dX7_about_88 ?_
          have hf := Option.some.inj hf
          subst hf
          exact hr 89 _ dX7_about_89
        · refine p_ite hf (fun hc13 hf => ?_) (fun hc13 hf => ?_)
          · refine r_tIn (pc := 25) (tgt := 90) h dX7_about_25 (by rw [hc13]; decide) (by rw [hc13]; decide) (by rw [hc13]; rfl) (by decide) ?_
            refine r_aload_n (pc := 90) h dX7_about_90 rfl ?_
            refine gf_X7_16 (pc := 91) h dX7_about_91 ?_
            refine r_iload_n (pc := 94) h dX7_about_94 rfl ?_
            refine p_g hf (fun hi14 hf => ?_)
            refine r_iald (pc := 95) (k := 3) (v := (u 3 l1.toNatClampNeg)) h hshM_3 hi14 rfl dX7_about_95 ?_
            have hf := Option.some.inj hf
            subst hf
            exact hr 96 _ dX7_about_96
          · refine p_ite hf (fun hc15 hf => ?_) (fun hc15 hf => ?_)
            · refine r_tIn (pc := 25) (tgt := 97) h dX7_about_25 (by rw [hc15]; decide) (by rw [hc15]; decide) (by rw [hc15]; rfl) (by decide) ?_
              refine r_aload_n (pc := 97) h dX7_about_97 rfl ?_
              refine gf_X7_19 (pc := 98) h dX7_about_98 ?_
              refine r_iload_n (pc := 101) h dX7_about_101 rfl ?_
              refine p_g hf (fun hi16 hf => ?_)
              refine r_iald (pc := 102) (k := 4) (v := (u 4 l1.toNatClampNeg)) h hshM_4 hi16 rfl dX7_about_102 ?_
              have hf := Option.some.inj hf
              subst hf
              exact hr 103 _ dX7_about_103
            · refine p_ite hf (fun hc17 hf => ?_) (fun hc17 hf => ?_)
              · refine r_tIn (pc := 25) (tgt := 104) h dX7_about_25 (by rw [hc17]; decide) (by rw [hc17]; decide) (by rw [hc17]; rfl) (by decide) ?_
                refine r_aload_n (pc := 104) h dX7_about_104 rfl ?_
                refine gf_X7_22 (pc := 105) h dX7_about_105 ?_
                refine r_iload_n (pc := 108) h dX7_about_108 rfl ?_
                refine p_g hf (fun hi18 hf => ?_)
                refine r_iald (pc := 109) (k := 5) (v := (u 5 l1.toNatClampNeg)) h hshM_5 hi18 rfl dX7_about_109 ?_
                have hf := Option.some.inj hf
                subst hf
                exact hr 110 _ dX7_about_110
              · refine p_ite hf (fun hc19 hf => ?_) (fun hc19 hf => ?_)
                · refine r_tIn (pc := 25) (tgt := 111) h dX7_about_25 (by rw [hc19]; decide) (by rw [hc19]; decide) (by rw [hc19]; rfl) (by decide) ?_
                  refine r_aload_n (pc := 111) h dX7_about_111 rfl ?_
                  refine gf_X7_25 (pc := 112) h dX7_about_112 ?_
                  refine r_iload_n (pc := 115) h dX7_about_115 rfl ?_
                  refine p_g hf (fun hi20 hf => ?_)
                  refine r_iald (pc := 116) (k := 6) (v := (u 6 l1.toNatClampNeg)) h hshM_6 hi20 rfl dX7_about_116 ?_
                  have hf := Option.some.inj hf
                  subst hf
                  exact hr 117 _ dX7_about_117
                · refine p_ite hf (fun hc21 hf => ?_) (fun hc21 hf => ?_)
                  · refine r_tIn (pc := 25) (tgt := 118) h dX7_about_25 (by rw [hc21]; decide) (by rw [hc21]; decide) (by rw [hc21]; rfl) (by decide) ?_
                    refine r_aload_n (pc := 118) h dX7_about_118 rfl ?_
                    refine gf_X7_28 (pc := 119) h dX7_about_119 ?_
                    refine r_iload_n (pc := 122) h dX7_about_122 rfl ?_
                    refine p_g hf (fun hi22 hf => ?_)
                    refine r_iald (pc := 123) (k := 7) (v := (u 7 l1.toNatClampNeg)) h hshM_7 hi22 rfl dX7_about_123 ?_
                    have hf := Option.some.inj hf
                    subst hf
                    exact hr 124 _ dX7_about_124
                  · refine p_ite hf (fun hc23 hf => ?_) (fun hc23 hf => ?_)
                    · refine r_tIn (pc := 25) (tgt := 125) h dX7_about_25 (by rw [hc23]; decide) (by rw [hc23]; decide) (by rw [hc23]; rfl) (by decide) ?_
                      refine r_aload_n (pc := 125) h dX7_about_125 rfl ?_
                      refine gf_X7_31 (pc := 126) h dX7_about_126 ?_
                      refine r_iload_n (pc := 129) h dX7_about_129 rfl ?_
                      refine p_g hf (fun hi24 hf => ?_)
                      refine r_iald (pc := 130) (k := 8) (v := (u 8 l1.toNatClampNeg)) h hshM_8 hi24 rfl dX7_about_130 ?_
                      have hf := Option.some.inj hf
                      subst hf
                      exact hr 131 _ dX7_about_131
                    · refine p_ite hf (fun hc25 hf => ?_) (fun hc25 hf => ?_)
                      · refine r_tIn (pc := 25) (tgt := 132) h dX7_about_25 (by rw [hc25]; decide) (by rw [hc25]; decide) (by rw [hc25]; rfl) (by decide) ?_
                        refine r_aload_n (pc := 132) h dX7_about_132 rfl ?_
                        refine gf_X7_34 (pc := 133) h dX7_about_133 ?_
                        refine r_iload_n (pc := 136) h dX7_about_136 rfl ?_
                        refine p_g hf (fun hi26 hf => ?_)
                        refine r_iald (pc := 137) (k := 9) (v := (u 9 l1.toNatClampNeg)) h hshM_9 hi26 rfl dX7_about_137 ?_
                        have hf := Option.some.inj hf
                        subst hf
                        exact hr 138 _ dX7_about_138
                      · refine r_tOut (pc := 25) (tgt := 139) h dX7_about_25 (sw_out9 hc9 hc11 hc13 hc15 hc17 hc19 hc21 hc23 hc25) (by decide) ?_
                        refine r_aload_n (pc := 139) h dX7_about_139 rfl ?_
                        refine gf_X7_34 (pc := 140) h dX7_about_140 ?_
                        refine r_iload_n (pc := 143) h dX7_about_143 rfl ?_
                        refine p_g hf (fun hi27 hf => ?_)
                        refine r_iald (pc := 144) (k := 9) (v := (u 9 l1.toNatClampNeg)) h hshM_9 hi27 rfl dX7_about_144 ?_
                        refine r_iconst (pc := 145) (v := 2) h dX7_about_145 (by decide) ?_
                        refine p_ite hf (fun hc28 hf => ?_) (fun hc28 hf => ?_)
                        · refine r_icmp_eq (pc := 146) (tgt := 159) h dX7_about_146 (by decide) (fun _ => ?_) (fun q => absurd hc28 q)
                          refine r_aload_n (pc := 159) h dX7_about_159 rfl ?_
                          refine gf_X7_37 (pc := 160) h dX7_about_160 ?_
                          refine r_iload_n (pc := 163) h dX7_about_163 rfl ?_
                          refine r_iald (pc := 164) (k := 10) (v := (u 10 l1.toNatClampNeg)) h hshM_10 hi27 rfl dX7_about_164 ?_
                          refine r_goto (pc := 165) (tgt := 169) h dX7_about_165 (by decide) ?_
                          have hf := Option.some.inj hf
                          subst hf
                          exact hr 169 _ dX7_about_169
                        · refine r_icmp_eq (pc := 146) (tgt := 159) h dX7_about_146 (by decide) (fun q => absurd q hc28) (fun _ => ?_)
                          refine r_aload_n (pc := 149) h dX7_about_149 rfl ?_
                          refine gf_X7_34 (pc := 150) h dX7_about_150 ?_
                          refine r_iload_n (pc := 153) h dX7_about_153 rfl ?_
                          refine r_iald (pc := 154) (k := 9) (v := (u 9 l1.toNatClampNeg)) h hshM_9 hi27 rfl dX7_about_154 ?_
                          refine r_iconst (pc := 155) (v := 3) h dX7_about_155 (by decide) ?_
                          refine p_ite hf (fun hc29 hf => ?_) (fun hc29 hf => ?_)
                          · refine r_icmp_ne (pc := 156) (tgt := 168) h dX7_about_156 (by decide) (fun q => absurd hc29 q) (fun _ => ?_)
                            refine r_aload_n (pc := 159) h dX7_about_159 rfl ?_
                            refine gf_X7_37 (pc := 160) h dX7_about_160 ?_
                            refine r_iload_n (pc := 163) h dX7_about_163 rfl ?_
                            refine r_iald (pc := 164) (k := 10) (v := (u 10 l1.toNatClampNeg)) h hshM_10 hi27 rfl dX7_about_164 ?_
                            refine r_goto (pc := 165) (tgt := 169) h dX7_about_165 (by decide) ?_
                            have hf := Option.some.inj hf
                            subst hf
                            exact hr 169 _ dX7_about_169
                          · refine r_icmp_ne (pc := 156) (tgt := 168) h dX7_about_156 (by decide) (fun _ => ?_) (fun q => absurd q hc29)
                            refine r_iconst (pc := 168) (v := 0) h dX7_about_168 (by decide) ?_
                            have hf := Option.some.inj hf
                            subst hf
                            exact hr 169 _ dX7_about_169
theorem c_X7_about {u : St} {l1 l2 : Int32} {r : Int32 × St} (hf : f_X7_about u l1 l2 = some r) : CtI shM yX7_about cX7_about 3 (some .int) rm_X7_about [.inr 0, .inl l1, .inl l2] u r.1 r.2 := ct_I (by decide +kernel) (Nat.le_of_ble_eq_true rfl) (fun K E h hr => w_X7_about_0 h hr _ _ _ hf)
set_option maxRecDepth 100000 in
set_option maxHeartbeats 4000000 in
theorem w_X7_isLook_0 {K : Kx} {E : Ex} (h : Ok shM K E RX7 cX7_isLook 1 rm_X7_isLook) {r : Int32} {u : St} (hr : RetZ shM K E cX7_isLook 1 r u) (l0 : Int32) (hf : f_X7_isLook u l0 = some r) : Vd shM K E 1 0 [some (.inl l0)] [] u := by
  refine r_iload_n (pc := 0) h dX7_isLook_0 rfl ?_
  refine r_iconst (pc := 1) (v := 0) h dX7_isLook_1 (by decide) ?_
  refine r_bipush (pc := 2) (v := 11) h dX7_isLook_2 (by decide) ?_
  refine p_b hf (fun q1 e2 hf => ?_)
  refine r_cSi (pc := 4) (st := []) h [.inl l0, .inl 0, .inl 11] cs_X7_isIn wm_X7_100 (c_X7_isIn e2) ⟨rfl, rfl, Nat.le_of_ble_eq_true rfl, Nat.le_of_ble_eq_true rfl⟩ (Nat.le_of_ble_eq_true rfl) dX7_isLook_4 ?_
  refine p_gp hf (fun hc3 hf => ?_)
  have hf := Option.some.inj hf
  subst hf
  exact hr 7 _ dX7_isLook_7 (z01 hc3)
theorem c_X7_isLook {u : St} {l0 : Int32} {r : Int32} (hf : f_X7_isLook u l0 = some r) : CtI shM yX7_isLook cX7_isLook 1 (some .boolean) rm_X7_isLook [.inl l0] u r u := ct_Z (by decide +kernel) (Nat.le_of_ble_eq_true rfl) (fun K E h hr => w_X7_isLook_0 h hr _ hf)
set_option maxRecDepth 100000 in
set_option maxHeartbeats 4000000 in
theorem w_X7_rowOf_5 {K : Kx} {E : Ex} (h : Ok shM K E RX7 cX7_rowOf 5 rm_X7_rowOf) {r : Int32} {u : St} (hr : RetI shM K E cX7_rowOf 5 r u) : ∀ (n : Nat) (l1 l2 l3 l4 : Int32), f_X7_rowOf_5 u n l1 l2 l3 l4 = some r → Vd shM K E 5 5 [some (.inr 0), some (.inl l1), some (.inl l2), some (.inl l3), some (.inl l4)] [] u := by
  intro n
  induction n with
  | zero => intro l1 l2 l3 l4 hf; cases hf
  | succ n ih =>
    intro l1 l2 l3 l4 hf
    refine r_iload (pc := 5) h dX7_rowOf_5 rfl ?_
    refine r_aload_n (pc := 7) h dX7_rowOf_7 rfl ?_
    refine gf_X7_40 (pc := 8) h dX7_rowOf_8 ?_
    refine r_iload_n (pc := 11) h dX7_rowOf_11 rfl ?_
    refine p_g hf (fun hi1 hf => ?_)
    refine r_iald (pc := 12) (k := 11) (v := (u 11 l1.toNatClampNeg)) h hshM_11 hi1 rfl dX7_rowOf_12 ?_
    refine p_ite hf (fun hc2 hf => ?_) (fun hc2 hf => ?_)
    · refine r_icmp_ge (pc := 13) (tgt := 45) h dX7_rowOf_13 (by decide) (fun _ => ?_) (fun q => absurd hc2 q)
      refine r_iload_n (pc := 45) h dX7_rowOf_45 rfl ?_
      have hf := Option.some.inj hf
      subst hf
      exact hr 46 _ dX7_rowOf_46
    · refine r_icmp_ge (pc := 13) (tgt := 45) h dX7_rowOf_13 (by decide) (fun q => absurd q hc2) (fun _ => ?_)
      refine r_aload_n (pc := 16) h dX7_rowOf_16 rfl ?_
      refine gf_X7_43 (pc := 17) h dX7_rowOf_17 ?_
      refine r_bipush (pc := 20) (v := 8) h dX7_rowOf_20 (by decide) ?_
      refine r_iload_n (pc := 22) h dX7_rowOf_22 rfl ?_
      refine r_imul (pc := 23) h dX7_rowOf_23 ?_
      refine r_iload (pc := 24) h dX7_rowOf_24 rfl ?_
      refine r_iadd (pc := 26) h dX7_rowOf_26 ?_
      refine p_g hf (fun hi3 hf => ?_)
      refine r_iald (pc := 27) (k := 12) (v := (u 12 ((8 * l1) + l4).toNatClampNeg)) h hshM_12 hi3 rfl dX7_rowOf_27 ?_
      refine r_iload_n (pc := 28) h dX7_rowOf_28 rfl ?_
      refine p_ite hf (fun hc4 hf => ?_) (fun hc4 hf => ?_)
      · refine r_icmp_ne (pc := 29) (tgt := 37) h dX7_rowOf_29 (by decide) (fun q => absurd hc4 q) (fun _ => ?_)
        refine r_iload (pc := 32) h dX7_rowOf_32 rfl ?_
        refine r_goto (pc := 34) (tgt := 38) h dX7_rowOf_34 (by decide) ?_
        refine r_istore_n (pc := 38) (L' := [some (.inr 0), some (.inl l1), some (.inl l2), some (.inl l4), some (.inl l4)]) h dX7_rowOf_38 (by decide) rfl ?_
        refine r_iinc (pc := 39) (v := (l4 + 1)) (L' := [some (.inr 0), some (.inl l1), some (.inl l2), some (.inl l4), some (.inl (l4 + 1))]) h dX7_rowOf_39 rfl rfl (by decide) rfl ?_
        refine r_goto (pc := 42) (tgt := 5) h dX7_rowOf_42 (by decide) ?_
        exact ih _ _ _ _ hf
      · refine r_icmp_ne (pc := 29) (tgt := 37) h dX7_rowOf_29 (by decide) (fun _ => ?_) (fun q => absurd q hc4)
        refine r_iload_n (pc := 37) h dX7_rowOf_37 rfl ?_
        refine r_istore_n (pc := 38) (L' := [some (.inr 0), some (.inl l1), some (.inl l2), some (.inl l3), some (.inl l4)]) h dX7_rowOf_38 (by decide) rfl ?_
        refine r_iinc (pc := 39) (v := (l4 + 1)) (L' := [some (.inr 0), some (.inl l1), some (.inl l2), some (.inl l3), some (.inl (l4 + 1))]) h dX7_rowOf_39 rfl rfl (by decide) rfl ?_
        refine r_goto (pc := 42) (tgt := 5) h dX7_rowOf_42 (by decide) ?_
        exact ih _ _ _ _ hf
set_option maxRecDepth 100000 in
set_option maxHeartbeats 4000000 in
theorem w_X7_rowOf_0 {K : Kx} {E : Ex} (h : Ok shM K E RX7 cX7_rowOf 5 rm_X7_rowOf) {r : Int32} {u : St} (hr : RetI shM K E cX7_rowOf 5 r u) (l1 l2 : Int32) (hf : f_X7_rowOf u l1 l2 = some r) : Vd shM K E 5 0 [some (.inr 0), some (.inl l1), some (.inl l2), none, none] [] u := by
  refine r_iconst (pc := 0) (v := (-1)) h dX7_rowOf_0 (by decide) ?_
  refine r_istore_n (pc := 1) (L' := [some (.inr 0), some (.inl l1), some (.inl l2), some (.inl (-1)), none]) h dX7_rowOf_1 (by decide) rfl ?_
  refine r_iconst (pc := 2) (v := 0) h dX7_rowOf_2 (by decide) ?_
  refine r_istore (pc := 3) (L' := [some (.inr 0), some (.inl l1), some (.inl l2), some (.inl (-1)), some (.inl 0)]) h dX7_rowOf_3 (by decide) rfl ?_
  exact w_X7_rowOf_5 h hr FU _ _ _ _ hf
theorem c_X7_rowOf {u : St} {l1 l2 : Int32} {r : Int32} (hf : f_X7_rowOf u l1 l2 = some r) : CtI shM yX7_rowOf cX7_rowOf 5 (some .int) rm_X7_rowOf [.inr 0, .inl l1, .inl l2] u r u := ct_I (by decide +kernel) (Nat.le_of_ble_eq_true rfl) (fun K E h hr => w_X7_rowOf_0 h hr _ _ hf)
set_option maxRecDepth 100000 in
set_option maxHeartbeats 4000000 in
theorem w_X7_wear_0 {K : Kx} {E : Ex} (h : Ok shM K E RX7 cX7_wear 3 rm_X7_wear) {r : Int32 × St} (hr : RetI shM K E cX7_wear 3 r.1 r.2) (u : St) (l1 l2 : Int32) (hf : f_X7_wear u l1 l2 = some r) : Vd shM K E 3 0 [some (.inr 0), some (.inl l1), some (.inl l2)] [] u := by
  refine r_iload_n (pc := 0) h dX7_wear_0 rfl ?_
  refine p_b hf (fun q1 e2 hf => ?_)
  refine r_cSi (pc := 1) (st := []) h [.inl l1] cs_X7_isLook wm_X7_112 (c_X7_isLook e2) ⟨rfl, rfl, Nat.le_of_ble_eq_true rfl, Nat.le_of_ble_eq_true rfl⟩ (Nat.le_of_ble_eq_true rfl) dX7_wear_1 ?_
  refine p_ite hf (fun hc3 hf => ?_) (fun hc3 hf => ?_)
  · refine r_if_eq (pc := 4) (tgt := 15) h dX7_wear_4 (by decide) (fun _ => ?_) (fun q => absurd hc3 q)
    refine r_aload_n (pc := 15) h dX7_wear_15 rfl ?_
    refine r_iconst (pc := 16) (v := 1) h dX7_wear_16 (by decide) ?_
    refine p_b hf (fun q4 e5 hf => ?_)
    refine r_cVi (pc := 17) (k := 0) (st := []) h [.inl 1] cv_X7_finding wm_X7_104 (c_X7_finding e5) ⟨rfl, rfl, Nat.le_of_ble_eq_true rfl, Nat.le_of_ble_eq_true rfl⟩ hshM_0 rfl rfl (Nat.le_of_ble_eq_true rfl) dX7_wear_17 ?_
    have hf := Option.some.inj hf
    subst hf
    exact hr 20 _ dX7_wear_20
  · refine r_if_eq (pc := 4) (tgt := 15) h dX7_wear_4 (by decide) (fun q => absurd q hc3) (fun _ => ?_)
    refine r_aload_n (pc := 7) h dX7_wear_7 rfl ?_
    refine r_iload_n (pc := 8) h dX7_wear_8 rfl ?_
    refine p_b hf (fun q6 e7 hf => ?_)
    refine r_cVi (pc := 9) (k := 0) (st := []) h [.inl l2] cv_X7_isPiece wm_X7_108 (c_X7_isPiece e7) ⟨rfl, rfl, Nat.le_of_ble_eq_true rfl, Nat.le_of_ble_eq_true rfl⟩ hshM_0 rfl rfl (Nat.le_of_ble_eq_true rfl) dX7_wear_9 ?_
    refine p_ite hf (fun hc8 hf => ?_) (fun hc8 hf => ?_)
    · refine r_if_ne (pc := 12) (tgt := 21) h dX7_wear_12 (by decide) (fun q => absurd hc8 q) (fun _ => ?_)
      refine r_aload_n (pc := 15) h dX7_wear_15 rfl ?_
      refine r_iconst (pc := 16) (v := 1) h dX7_wear_16 (by decide) ?_
      refine p_b hf (fun q19 e20 hf => ?_)
      refine r_cVi (pc := 17) (k := 0) (st := []) h [.inl 1] cv_X7_finding wm_X7_104 (c_X7_finding e20) ⟨rfl, rfl, Nat.le_of_ble_eq_true rfl, Nat.le_of_ble_eq_true rfl⟩ hshM_0 rfl rfl (Nat.le_of_ble_eq_true rfl) dX7_wear_17 ?_
      have hf := Option.some.inj hf
      subst hf
      exact hr 20 _ dX7_wear_20
    · refine r_if_ne (pc := 12) (tgt := 21) h dX7_wear_12 (by decide) (fun _ => ?_) (fun q => absurd q hc8)
      refine r_aload_n (pc := 21) h dX7_wear_21 rfl ?_
      refine r_iload_n (pc := 22) h dX7_wear_22 rfl ?_
      refine r_iload_n (pc := 23) h dX7_wear_23 rfl ?_
      refine p_b hf (fun q9 e10 hf => ?_)
      refine r_cVi (pc := 24) (k := 0) (st := []) h [.inl l1, .inl l2] cv_X7_rowOf wm_X7_115 (c_X7_rowOf e10) ⟨rfl, rfl, Nat.le_of_ble_eq_true rfl, Nat.le_of_ble_eq_true rfl⟩ hshM_0 rfl rfl (Nat.le_of_ble_eq_true rfl) dX7_wear_24 ?_
      refine p_ite hf (fun hc11 hf => ?_) (fun hc11 hf => ?_)
      · refine r_if_lt (pc := 27) (tgt := 36) h dX7_wear_27 (by decide) (fun _ => ?_) (fun q => absurd hc11 q)
        refine r_aload_n (pc := 36) h dX7_wear_36 rfl ?_
        refine gf_X7_40 (pc := 37) h dX7_wear_37 ?_
        refine r_iload_n (pc := 40) h dX7_wear_40 rfl ?_
        refine p_g hf (fun hi12 hf => ?_)
        refine r_iald (pc := 41) (k := 11) (v := (u 11 l1.toNatClampNeg)) h hshM_11 hi12 rfl dX7_wear_41 ?_
        refine r_bipush (pc := 42) (v := 8) h dX7_wear_42 (by decide) ?_
        refine p_ite hf (fun hc13 hf => ?_) (fun hc13 hf => ?_)
        · refine r_icmp_ne (pc := 44) (tgt := 53) h dX7_wear_44 (by decide) (fun q => absurd hc13 q) (fun _ => ?_)
          refine r_aload_n (pc := 47) h dX7_wear_47 rfl ?_
          refine r_iconst (pc := 48) (v := 4) h dX7_wear_48 (by decide) ?_
          refine p_b hf (fun q15 e16 hf => ?_)
          refine r_cVi (pc := 49) (k := 0) (st := []) h [.inl 4] cv_X7_finding wm_X7_104 (c_X7_finding e16) ⟨rfl, rfl, Nat.le_of_ble_eq_true rfl, Nat.le_of_ble_eq_true rfl⟩ hshM_0 rfl rfl (Nat.le_of_ble_eq_true rfl) dX7_wear_49 ?_
          have hf := Option.some.inj hf
          subst hf
          exact hr 52 _ dX7_wear_52
        · refine r_icmp_ne (pc := 44) (tgt := 53) h dX7_wear_44 (by decide) (fun _ => ?_) (fun q => absurd q hc13)
          refine r_aload_n (pc := 53) h dX7_wear_53 rfl ?_
          refine gf_X7_43 (pc := 54) h dX7_wear_54 ?_
          refine r_bipush (pc := 57) (v := 8) h dX7_wear_57 (by decide) ?_
          refine r_iload_n (pc := 59) h dX7_wear_59 rfl ?_
          refine r_imul (pc := 60) h dX7_wear_60 ?_
          refine r_aload_n (pc := 61) h dX7_wear_61 rfl ?_
          refine gf_X7_40 (pc := 62) h dX7_wear_62 ?_
          refine r_iload_n (pc := 65) h dX7_wear_65 rfl ?_
          refine r_iald (pc := 66) (k := 11) (v := (u 11 l1.toNatClampNeg)) h hshM_11 hi12 rfl dX7_wear_66 ?_
          refine r_iadd (pc := 67) h dX7_wear_67 ?_
          refine r_iload_n (pc := 68) h dX7_wear_68 rfl ?_
          refine p_g hf (fun hi14 hf => ?_)
          refine r_iast (pc := 69) (k := 12) h hshM_12 hi14 dX7_wear_69 ?_
          refine r_aload_n (pc := 70) h dX7_wear_70 rfl ?_
          refine gf_X7_40 (pc := 71) h dX7_wear_71 ?_
          refine r_iload_n (pc := 74) h dX7_wear_74 rfl ?_
          refine r_dup2 (pc := 75) h dX7_wear_75 ?_
          refine r_iald (pc := 76) (k := 11) (v := (u 11 l1.toNatClampNeg)) h hshM_11 hi12 rfl dX7_wear_76 ?_
          refine r_iconst (pc := 77) (v := 1) h dX7_wear_77 (by decide) ?_
          refine r_iadd (pc := 78) h dX7_wear_78 ?_
          refine r_iast (pc := 79) (k := 11) h hshM_11 hi12 dX7_wear_79 ?_
          refine r_aload_n (pc := 80) h dX7_wear_80 rfl ?_
          refine gf_X7_40 (pc := 81) h dX7_wear_81 ?_
          refine r_iload_n (pc := 84) h dX7_wear_84 rfl ?_
          refine r_iald (pc := 85) (k := 11) (v := (upd (u 11) l1.toNatClampNeg ((u 11 l1.toNatClampNeg) + 1) l1.toNatClampNeg)) h hshM_11 hi12 rfl dX7_wear_85 ?_
          have hf := Option.some.inj hf
          subst hf
          exact hr 86 _ dX7_wear_86
      · refine r_if_lt (pc := 27) (tgt := 36) h dX7_wear_27 (by decide) (fun q => absurd q hc11) (fun _ => ?_)
        refine r_aload_n (pc := 30) h dX7_wear_30 rfl ?_
        refine r_iconst (pc := 31) (v := 3) h dX7_wear_31 (by decide) ?_
        refine p_b hf (fun q17 e18 hf => ?_)
        refine r_cVi (pc := 32) (k := 0) (st := []) h [.inl 3] cv_X7_finding wm_X7_104 (c_X7_finding e18) ⟨rfl, rfl, Nat.le_of_ble_eq_true rfl, Nat.le_of_ble_eq_true rfl⟩ hshM_0 rfl rfl (Nat.le_of_ble_eq_true rfl) dX7_wear_32 ?_
        have hf := Option.some.inj hf
        subst hf
        exact hr 35 _ dX7_wear_35
theorem c_X7_wear {u : St} {l1 l2 : Int32} {r : Int32 × St} (hf : f_X7_wear u l1 l2 = some r) : CtI shM yX7_wear cX7_wear 3 (some .int) rm_X7_wear [.inr 0, .inl l1, .inl l2] u r.1 r.2 := ct_I (by decide +kernel) (Nat.le_of_ble_eq_true rfl) (fun K E h hr => w_X7_wear_0 h hr _ _ _ hf)
set_option maxRecDepth 100000 in
set_option maxHeartbeats 4000000 in
theorem w_X7_bare_0 {K : Kx} {E : Ex} (h : Ok shM K E RX7 cX7_bare 3 rm_X7_bare) {r : Int32 × St} (hr : RetI shM K E cX7_bare 3 r.1 r.2) (u : St) (l1 : Int32) (hf : f_X7_bare u l1 = some r) : Vd shM K E 3 0 [some (.inr 0), some (.inl l1), none] [] u := by
  refine r_iload_n (pc := 0) h dX7_bare_0 rfl ?_
  refine p_b hf (fun q1 e2 hf => ?_)
  refine r_cSi (pc := 1) (st := []) h [.inl l1] cs_X7_isLook wm_X7_112 (c_X7_isLook e2) ⟨rfl, rfl, Nat.le_of_ble_eq_true rfl, Nat.le_of_ble_eq_true rfl⟩ (Nat.le_of_ble_eq_true rfl) dX7_bare_1 ?_
  refine p_ite hf (fun hc3 hf => ?_) (fun hc3 hf => ?_)
  · refine r_if_ne (pc := 4) (tgt := 13) h dX7_bare_4 (by decide) (fun q => absurd hc3 q) (fun _ => ?_)
    refine r_aload_n (pc := 7) h dX7_bare_7 rfl ?_
    refine r_iconst (pc := 8) (v := 1) h dX7_bare_8 (by decide) ?_
    refine p_b hf (fun q5 e6 hf => ?_)
    refine r_cVi (pc := 9) (k := 0) (st := []) h [.inl 1] cv_X7_finding wm_X7_104 (c_X7_finding e6) ⟨rfl, rfl, Nat.le_of_ble_eq_true rfl, Nat.le_of_ble_eq_true rfl⟩ hshM_0 rfl rfl (Nat.le_of_ble_eq_true rfl) dX7_bare_9 ?_
    have hf := Option.some.inj hf
    subst hf
    exact hr 12 _ dX7_bare_12
  · refine r_if_ne (pc := 4) (tgt := 13) h dX7_bare_4 (by decide) (fun _ => ?_) (fun q => absurd q hc3)
    refine r_aload_n (pc := 13) h dX7_bare_13 rfl ?_
    refine gf_X7_40 (pc := 14) h dX7_bare_14 ?_
    refine r_iload_n (pc := 17) h dX7_bare_17 rfl ?_
    refine p_g hf (fun hi4 hf => ?_)
    refine r_iald (pc := 18) (k := 11) (v := (u 11 l1.toNatClampNeg)) h hshM_11 hi4 rfl dX7_bare_18 ?_
    refine r_istore_n (pc := 19) (L' := [some (.inr 0), some (.inl l1), some (.inl (u 11 l1.toNatClampNeg))]) h dX7_bare_19 (by decide) rfl ?_
    refine r_aload_n (pc := 20) h dX7_bare_20 rfl ?_
    refine gf_X7_40 (pc := 21) h dX7_bare_21 ?_
    refine r_iload_n (pc := 24) h dX7_bare_24 rfl ?_
    refine r_iconst (pc := 25) (v := 0) h dX7_bare_25 (by decide) ?_
    refine r_iast (pc := 26) (k := 11) h hshM_11 hi4 dX7_bare_26 ?_
    refine r_iload_n (pc := 27) h dX7_bare_27 rfl ?_
    have hf := Option.some.inj hf
    subst hf
    exact hr 28 _ dX7_bare_28
theorem c_X7_bare {u : St} {l1 : Int32} {r : Int32 × St} (hf : f_X7_bare u l1 = some r) : CtI shM yX7_bare cX7_bare 3 (some .int) rm_X7_bare [.inr 0, .inl l1] u r.1 r.2 := ct_I (by decide +kernel) (Nat.le_of_ble_eq_true rfl) (fun K E h hr => w_X7_bare_0 h hr _ _ hf)
set_option maxRecDepth 100000 in
set_option maxHeartbeats 4000000 in
theorem w_X7_look_0 {K : Kx} {E : Ex} (h : Ok shM K E RX7 cX7_look 3 rm_X7_look) {r : Int32 × St} (hr : RetI shM K E cX7_look 3 r.1 r.2) (u : St) (l1 l2 : Int32) (hf : f_X7_look u l1 l2 = some r) : Vd shM K E 3 0 [some (.inr 0), some (.inl l1), some (.inl l2)] [] u := by
  refine r_iload_n (pc := 0) h dX7_look_0 rfl ?_
  refine p_b hf (fun q1 e2 hf => ?_)
  refine r_cSi (pc := 1) (st := []) h [.inl l1] cs_X7_isLook wm_X7_112 (c_X7_isLook e2) ⟨rfl, rfl, Nat.le_of_ble_eq_true rfl, Nat.le_of_ble_eq_true rfl⟩ (Nat.le_of_ble_eq_true rfl) dX7_look_1 ?_
  refine p_ite hf (fun hc3 hf => ?_) (fun hc3 hf => ?_)
  · refine r_if_ne (pc := 4) (tgt := 13) h dX7_look_4 (by decide) (fun q => absurd hc3 q) (fun _ => ?_)
    refine r_aload_n (pc := 7) h dX7_look_7 rfl ?_
    refine r_iconst (pc := 8) (v := 1) h dX7_look_8 (by decide) ?_
    refine p_b hf (fun q12 e13 hf => ?_)
    refine r_cVi (pc := 9) (k := 0) (st := []) h [.inl 1] cv_X7_finding wm_X7_104 (c_X7_finding e13) ⟨rfl, rfl, Nat.le_of_ble_eq_true rfl, Nat.le_of_ble_eq_true rfl⟩ hshM_0 rfl rfl (Nat.le_of_ble_eq_true rfl) dX7_look_9 ?_
    have hf := Option.some.inj hf
    subst hf
    exact hr 12 _ dX7_look_12
  · refine r_if_ne (pc := 4) (tgt := 13) h dX7_look_4 (by decide) (fun _ => ?_) (fun q => absurd q hc3)
    refine r_iload_n (pc := 13) h dX7_look_13 rfl ?_
    refine p_ite hf (fun hc4 hf => ?_) (fun hc4 hf => ?_)
    · refine r_if_lt (pc := 14) (tgt := 27) h dX7_look_14 (by decide) (fun _ => ?_) (fun q => absurd hc4 q)
      refine r_aload_n (pc := 27) h dX7_look_27 rfl ?_
      refine r_iconst (pc := 28) (v := 2) h dX7_look_28 (by decide) ?_
      refine p_b hf (fun q5 e6 hf => ?_)
      refine r_cVi (pc := 29) (k := 0) (st := []) h [.inl 2] cv_X7_finding wm_X7_104 (c_X7_finding e6) ⟨rfl, rfl, Nat.le_of_ble_eq_true rfl, Nat.le_of_ble_eq_true rfl⟩ hshM_0 rfl rfl (Nat.le_of_ble_eq_true rfl) dX7_look_29 ?_
      refine r_goto (pc := 32) (tgt := 46) h dX7_look_32 (by decide) ?_
      have hf := Option.some.inj hf
      subst hf
      exact hr 46 _ dX7_look_46
    · refine r_if_lt (pc := 14) (tgt := 27) h dX7_look_14 (by decide) (fun q => absurd q hc4) (fun _ => ?_)
      refine r_iload_n (pc := 17) h dX7_look_17 rfl ?_
      refine r_aload_n (pc := 18) h dX7_look_18 rfl ?_
      refine gf_X7_40 (pc := 19) h dX7_look_19 ?_
      refine r_iload_n (pc := 22) h dX7_look_22 rfl ?_
      refine p_g hf (fun hi7 hf => ?_)
      refine r_iald (pc := 23) (k := 11) (v := (u 11 l1.toNatClampNeg)) h hshM_11 hi7 rfl dX7_look_23 ?_
      refine p_ite hf (fun hc8 hf => ?_) (fun hc8 hf => ?_)
      · refine r_icmp_lt (pc := 24) (tgt := 35) h dX7_look_24 (by decide) (fun _ => ?_) (fun q => absurd hc8 q)
        refine r_aload_n (pc := 35) h dX7_look_35 rfl ?_
        refine gf_X7_43 (pc := 36) h dX7_look_36 ?_
        refine r_bipush (pc := 39) (v := 8) h dX7_look_39 (by decide) ?_
        refine r_iload_n (pc := 41) h dX7_look_41 rfl ?_
        refine r_imul (pc := 42) h dX7_look_42 ?_
        refine r_iload_n (pc := 43) h dX7_look_43 rfl ?_
        refine r_iadd (pc := 44) h dX7_look_44 ?_
        refine p_g hf (fun hi9 hf => ?_)
        refine r_iald (pc := 45) (k := 12) (v := (u 12 ((8 * l1) + l2).toNatClampNeg)) h hshM_12 hi9 rfl dX7_look_45 ?_
        have hf := Option.some.inj hf
        subst hf
        exact hr 46 _ dX7_look_46
      · refine r_icmp_lt (pc := 24) (tgt := 35) h dX7_look_24 (by decide) (fun q => absurd q hc8) (fun _ => ?_)
        refine r_aload_n (pc := 27) h dX7_look_27 rfl ?_
        refine r_iconst (pc := 28) (v := 2) h dX7_look_28 (by decide) ?_
        refine p_b hf (fun q10 e11 hf => ?_)
        refine r_cVi (pc := 29) (k := 0) (st := []) h [.inl 2] cv_X7_finding wm_X7_104 (c_X7_finding e11) ⟨rfl, rfl, Nat.le_of_ble_eq_true rfl, Nat.le_of_ble_eq_true rfl⟩ hshM_0 rfl rfl (Nat.le_of_ble_eq_true rfl) dX7_look_29 ?_
        refine r_goto (pc := 32) (tgt := 46) h dX7_look_32 (by decide) ?_
        have hf := Option.some.inj hf
        subst hf
        exact hr 46 _ dX7_look_46
theorem c_X7_look {u : St} {l1 l2 : Int32} {r : Int32 × St} (hf : f_X7_look u l1 l2 = some r) : CtI shM yX7_look cX7_look 3 (some .int) rm_X7_look [.inr 0, .inl l1, .inl l2] u r.1 r.2 := ct_I (by decide +kernel) (Nat.le_of_ble_eq_true rfl) (fun K E h hr => w_X7_look_0 h hr _ _ _ hf)
set_option maxRecDepth 100000 in
set_option maxHeartbeats 4000000 in
theorem w_X7_limit_0 {K : Kx} {E : Ex} (h : Ok shM K E RX7 cX7_limit 3 rm_X7_limit) {r : Int32 × St} (hr : RetI shM K E cX7_limit 3 r.1 r.2) (u : St) (l1 : Int32) (hf : f_X7_limit u l1 = some r) : Vd shM K E 3 0 [some (.inr 0), some (.inl l1), none] [] u := by
  refine r_iload_n (pc := 0) h dX7_limit_0 rfl ?_
  refine r_iconst (pc := 1) (v := 1) h dX7_limit_1 (by decide) ?_
  refine r_bipush (pc := 2) (v := 30) h dX7_limit_2 (by decide) ?_
  refine p_b hf (fun q1 e2 hf => ?_)
  refine r_cSi (pc := 4) (st := []) h [.inl l1, .inl 1, .inl 30] cs_X7_isIn wm_X7_100 (c_X7_isIn e2) ⟨rfl, rfl, Nat.le_of_ble_eq_true rfl, Nat.le_of_ble_eq_true rfl⟩ (Nat.le_of_ble_eq_true rfl) dX7_limit_4 ?_
  refine p_ite hf (fun hc3 hf => ?_) (fun hc3 hf => ?_)
  · refine r_if_ne (pc := 7) (tgt := 16) h dX7_limit_7 (by decide) (fun q => absurd hc3 q) (fun _ => ?_)
    refine r_aload_n (pc := 10) h dX7_limit_10 rfl ?_
    refine r_iconst (pc := 11) (v := 1) h dX7_limit_11 (by decide) ?_
    refine p_b hf (fun q4 e5 hf => ?_)
    refine r_cVi (pc := 12) (k := 0) (st := []) h [.inl 1] cv_X7_finding wm_X7_104 (c_X7_finding e5) ⟨rfl, rfl, Nat.le_of_ble_eq_true rfl, Nat.le_of_ble_eq_true rfl⟩ hshM_0 rfl rfl (Nat.le_of_ble_eq_true rfl) dX7_limit_12 ?_
    have hf := Option.some.inj hf
    subst hf
    exact hr 15 _ dX7_limit_15
  · refine r_if_ne (pc := 7) (tgt := 16) h dX7_limit_7 (by decide) (fun _ => ?_) (fun q => absurd q hc3)
    refine r_aload_n (pc := 16) h dX7_limit_16 rfl ?_
    refine gf_X7_46 (pc := 17) (v := (u 0 13)) h rfl dX7_limit_17 ?_
    refine r_istore_n (pc := 20) (L' := [some (.inr 0), some (.inl l1), some (.inl (u 0 13))]) h dX7_limit_20 (by decide) rfl ?_
    refine r_aload_n (pc := 21) h dX7_limit_21 rfl ?_
    refine r_iload_n (pc := 22) h dX7_limit_22 rfl ?_
    refine pf_X7_46 (pc := 23) h dX7_limit_23 ?_
    refine r_iload_n (pc := 26) h dX7_limit_26 rfl ?_
    have hf := Option.some.inj hf
    subst hf
    exact hr 27 _ dX7_limit_27
theorem c_X7_limit {u : St} {l1 : Int32} {r : Int32 × St} (hf : f_X7_limit u l1 = some r) : CtI shM yX7_limit cX7_limit 3 (some .int) rm_X7_limit [.inr 0, .inl l1] u r.1 r.2 := ct_I (by decide +kernel) (Nat.le_of_ble_eq_true rfl) (fun K E h hr => w_X7_limit_0 h hr _ _ hf)
set_option maxRecDepth 100000 in
set_option maxHeartbeats 4000000 in
theorem w_X7_isChange_0 {K : Kx} {E : Ex} (h : Ok shM K E RX7 cX7_isChange 4 rm_X7_isChange) {r : Int32} {u : St} (hr : RetZ shM K E cX7_isChange 4 r u) (l1 l2 l3 : Int32) (hf : f_X7_isChange u l1 l2 l3 = some r) : Vd shM K E 4 0 [some (.inr 0), some (.inl l1), some (.inl l2), some (.inl l3)] [] u := by
  refine r_iload_n (pc := 0) h dX7_isChange_0 rfl ?_
  refine p_b hf (fun q1 e2 hf => ?_)
  refine r_cSi (pc := 1) (st := []) h [.inl l1] cs_X7_isLook wm_X7_112 (c_X7_isLook e2) ⟨rfl, rfl, Nat.le_of_ble_eq_true rfl, Nat.le_of_ble_eq_true rfl⟩ (Nat.le_of_ble_eq_true rfl) dX7_isChange_1 ?_
  refine p_ite hf (fun hc3 hf => ?_) (fun hc3 hf => ?_)
  · refine r_if_eq (pc := 4) (tgt := 34) h dX7_isChange_4 (by decide) (fun _ => ?_) (fun q => absurd hc3 q)
    refine r_iconst (pc := 34) (v := 0) h dX7_isChange_34 (by decide) ?_
    have hf := Option.some.inj hf
    subst hf
    exact hr 35 _ dX7_isChange_35 z_0
  · refine r_if_eq (pc := 4) (tgt := 34) h dX7_isChange_4 (by decide) (fun q => absurd q hc3) (fun _ => ?_)
    refine r_iload_n (pc := 7) h dX7_isChange_7 rfl ?_
    refine p_b hf (fun q4 e5 hf => ?_)
    refine r_cSi (pc := 8) (st := []) h [.inl l2] cs_X7_isLook wm_X7_112 (c_X7_isLook e5) ⟨rfl, rfl, Nat.le_of_ble_eq_true rfl, Nat.le_of_ble_eq_true rfl⟩ (Nat.le_of_ble_eq_true rfl) dX7_isChange_8 ?_
    refine p_ite hf (fun hc6 hf => ?_) (fun hc6 hf => ?_)
    · refine r_if_eq (pc := 11) (tgt := 34) h dX7_isChange_11 (by decide) (fun _ => ?_) (fun q => absurd hc6 q)
      refine r_iconst (pc := 34) (v := 0) h dX7_isChange_34 (by decide) ?_
      have hf := Option.some.inj hf
      subst hf
      exact hr 35 _ dX7_isChange_35 z_0
    · refine r_if_eq (pc := 11) (tgt := 34) h dX7_isChange_11 (by decide) (fun q => absurd q hc6) (fun _ => ?_)
      refine r_iload_n (pc := 14) h dX7_isChange_14 rfl ?_
      refine p_ite hf (fun hc7 hf => ?_) (fun hc7 hf => ?_)
      · refine r_if_lt (pc := 15) (tgt := 34) h dX7_isChange_15 (by decide) (fun _ => ?_) (fun q => absurd hc7 q)
        refine r_iconst (pc := 34) (v := 0) h dX7_isChange_34 (by decide) ?_
        have hf := Option.some.inj hf
        subst hf
        exact hr 35 _ dX7_isChange_35 z_0
      · refine r_if_lt (pc := 15) (tgt := 34) h dX7_isChange_15 (by decide) (fun q => absurd q hc7) (fun _ => ?_)
        refine r_iload_n (pc := 18) h dX7_isChange_18 rfl ?_
        refine r_iconst (pc := 19) (v := 1) h dX7_isChange_19 (by decide) ?_
        refine r_aload_n (pc := 20) h dX7_isChange_20 rfl ?_
        refine gf_X7_40 (pc := 21) h dX7_isChange_21 ?_
        refine r_iload_n (pc := 24) h dX7_isChange_24 rfl ?_
        refine p_g hf (fun hi8 hf => ?_)
        refine r_iald (pc := 25) (k := 11) (v := (u 11 l2.toNatClampNeg)) h hshM_11 hi8 rfl dX7_isChange_25 ?_
        refine r_ishl (pc := 26) h dX7_isChange_26 ?_
        refine p_ite hf (fun hc9 hf => ?_) (fun hc9 hf => ?_)
        · refine r_icmp_ge (pc := 27) (tgt := 34) h dX7_isChange_27 (by decide) (fun _ => ?_) (fun q => absurd hc9 q)
          refine r_iconst (pc := 34) (v := 0) h dX7_isChange_34 (by decide) ?_
          have hf := Option.some.inj hf
          subst hf
          exact hr 35 _ dX7_isChange_35 z_0
        · refine r_icmp_ge (pc := 27) (tgt := 34) h dX7_isChange_27 (by decide) (fun q => absurd q hc9) (fun _ => ?_)
          refine r_iconst (pc := 30) (v := 1) h dX7_isChange_30 (by decide) ?_
          refine r_goto (pc := 31) (tgt := 35) h dX7_isChange_31 (by decide) ?_
          have hf := Option.some.inj hf
          subst hf
          exact hr 35 _ dX7_isChange_35 z_1
theorem c_X7_isChange {u : St} {l1 l2 l3 : Int32} {r : Int32} (hf : f_X7_isChange u l1 l2 l3 = some r) : CtI shM yX7_isChange cX7_isChange 4 (some .boolean) rm_X7_isChange [.inr 0, .inl l1, .inl l2, .inl l3] u r u := ct_Z (by decide +kernel) (Nat.le_of_ble_eq_true rfl) (fun K E h hr => w_X7_isChange_0 h hr _ _ _ hf)
set_option maxRecDepth 100000 in
set_option maxHeartbeats 4000000 in
theorem w_X7_has_0 {K : Kx} {E : Ex} (h : Ok shM K E RX7 cX7_has 2 rm_X7_has) {r : Int32} {u : St} (hr : RetZ shM K E cX7_has 2 r u) (l0 l1 : Int32) (hf : f_X7_has u l0 l1 = some r) : Vd shM K E 2 0 [some (.inl l0), some (.inl l1)] [] u := by
  refine r_iload_n (pc := 0) h dX7_has_0 rfl ?_
  refine r_iload_n (pc := 1) h dX7_has_1 rfl ?_
  refine r_ishr (pc := 2) h dX7_has_2 ?_
  refine r_iconst (pc := 3) (v := 1) h dX7_has_3 (by decide) ?_
  refine r_iand (pc := 4) h dX7_has_4 ?_
  refine r_iconst (pc := 5) (v := 1) h dX7_has_5 (by decide) ?_
  refine p_ite hf (fun hc1 hf => ?_) (fun hc1 hf => ?_)
  · refine r_icmp_ne (pc := 6) (tgt := 13) h dX7_has_6 (by decide) (fun q => absurd hc1 q) (fun _ => ?_)
    refine r_iconst (pc := 9) (v := 1) h dX7_has_9 (by decide) ?_
    refine r_goto (pc := 10) (tgt := 14) h dX7_has_10 (by decide) ?_
    have hf := Option.some.inj hf
    subst hf
    exact hr 14 _ dX7_has_14 z_1
  · refine r_icmp_ne (pc := 6) (tgt := 13) h dX7_has_6 (by decide) (fun _ => ?_) (fun q => absurd q hc1)
    refine r_iconst (pc := 13) (v := 0) h dX7_has_13 (by decide) ?_
    have hf := Option.some.inj hf
    subst hf
    exact hr 14 _ dX7_has_14 z_0
theorem c_X7_has {u : St} {l0 l1 : Int32} {r : Int32} (hf : f_X7_has u l0 l1 = some r) : CtI shM yX7_has cX7_has 2 (some .boolean) rm_X7_has [.inl l0, .inl l1] u r u := ct_Z (by decide +kernel) (Nat.le_of_ble_eq_true rfl) (fun K E h hr => w_X7_has_0 h hr _ _ hf)
