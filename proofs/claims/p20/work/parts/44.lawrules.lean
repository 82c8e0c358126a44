theorem nst_in : ∀ w ∈ nst, w ∈ lw_tbl ∧ w.onTables = true := by
  intro w hw
  simp only [nst, nstF, nstM, List.map_cons, List.map_nil, List.cons_append, List.nil_append, List.mem_cons, List.not_mem_nil, or_false] at hw
  rcases hw with rfl | rfl | rfl | rfl | rfl | rfl | rfl | rfl | rfl | rfl | rfl | rfl | rfl | rfl | rfl | rfl | rfl | rfl | rfl | rfl | rfl | rfl | rfl | rfl | rfl | rfl
  · exact ⟨tb1 (List.mem_of_getElem? (i := 28) rfl), rfl⟩
  · exact ⟨tb1 (List.mem_of_getElem? (i := 30) rfl), rfl⟩
  · exact ⟨tb1 (List.mem_of_getElem? (i := 76) rfl), rfl⟩
  · exact ⟨tb1 (List.mem_of_getElem? (i := 78) rfl), rfl⟩
  · exact ⟨tb1 (List.mem_of_getElem? (i := 79) rfl), rfl⟩
  · exact ⟨tb1 (List.mem_of_getElem? (i := 81) rfl), rfl⟩
  · exact ⟨tb1 (List.mem_of_getElem? (i := 132) rfl), rfl⟩
  · exact ⟨tb1 (List.mem_of_getElem? (i := 22) rfl), rfl⟩
  · exact ⟨tb1 (List.mem_of_getElem? (i := 41) rfl), rfl⟩
  · exact ⟨tb1 (List.mem_of_getElem? (i := 122) rfl), rfl⟩
  · exact ⟨tb2 (List.mem_of_getElem? (i := 28) rfl), rfl⟩
  · exact ⟨tb2 (List.mem_of_getElem? (i := 37) rfl), rfl⟩
  · exact ⟨tb2 (List.mem_of_getElem? (i := 38) rfl), rfl⟩
  · exact ⟨tb2 (List.mem_of_getElem? (i := 39) rfl), rfl⟩
  · exact ⟨tb2 (List.mem_of_getElem? (i := 40) rfl), rfl⟩
  · exact ⟨tb2 (List.mem_of_getElem? (i := 41) rfl), rfl⟩
  · exact ⟨tb2 (List.mem_of_getElem? (i := 42) rfl), rfl⟩
  · exact ⟨tb2 (List.mem_of_getElem? (i := 43) rfl), rfl⟩
  · exact ⟨tb2 (List.mem_of_getElem? (i := 91) rfl), rfl⟩
  · exact ⟨tb2 (List.mem_of_getElem? (i := 157) rfl), rfl⟩
  · exact ⟨tb2 (List.mem_of_getElem? (i := 206) rfl), rfl⟩
  · exact ⟨tb3 (List.mem_of_getElem? (i := 40) rfl), rfl⟩
  · exact ⟨tb3 (List.mem_of_getElem? (i := 54) rfl), rfl⟩
  · exact ⟨tb3 (List.mem_of_getElem? (i := 59) rfl), rfl⟩
  · exact ⟨tb3 (List.mem_of_getElem? (i := 92) rfl), rfl⟩
  · exact ⟨tb3 (List.mem_of_getElem? (i := 97) rfl), rfl⟩
abbrev Tx : Type := (Nat → ClassId) × (Nat → Nat → Nat) × (Nat → Nat) × (Nat → ClassId) × (Nat → Nat) × (Nat → ClassId)
def ga (b : Nat) (gx gm : Nat → Nat) : Nat → Nat := fun k => match k with
  | 0 => b
  | 1 => gx 0
  | _ => gm 0
def VL (K : Kx) (T : Tx) (b pc : Nat) (L : List (Option Vl)) (st : List Vl) (ux um : St) : Prop := match K, T with
  | (p, l, e, R, s, m, args, below, meth, c, Q), (dC, dI, gx, cx, gm, cm) => ∀ (H : Heap) (locs : List Loc) (ls : Array Slot), va_P (dC, dI) vwCl (wld shX gx cx ux ++ wld shM gm cm um) H → va_D (fun q : Nat => s.heap.size ≤ q) (wld shX gx cx ux ++ wld shM gm cm um) → va_S (fun q : Nat => s.heap.size ≤ q) s.heap H locs → lvH (ga b gx gm) ls 4 L → W p l e R s m args below meth c H locs 59 1747 Q (F0 m pc ls (st.map (tv (ga b gx gm))))
def OkL (K : Kx) (T : Tx) (b N : Nat) (xs : Nat → Int32) : Prop := match K, T with
  | (p, _, _, R, s, m, args, below, meth, c, Q), (dC, dI, _, cx, _, cm) => p.tables.exec = Jvm.exec ∧ c.code = code ∧ c.maxLocals = 4 ∧ s.vm.findClass RL = some m.cls ∧ (∀ w ∈ gtbl, w.before args s = true) ∧ (∀ w ∈ nst, va_Nw w s) ∧ va_K (dC, dI) vwCl (tys shX cx ++ tys shM cm) s ∧ va_X b N xs s s.heap ∧ b < s.heap.size ∧ R = room_1 ∧ args = #[Value.ref b] ∧ Q = lw_Z below #[Value.ref b] s ∧ meth.sig.returnType = ret ∧ meth.locks = false
theorem K_l {D : va_G} {t1 t2 : List (ClassId × FieldType)} {U : State} (h : va_K D vwCl (t1 ++ t2) U) : va_K D vwCl t1 U := ⟨h.1, fun k q hk => h.2 k q (by rw [List.getElem?_append_left ((List.getElem?_eq_some_iff.mp hk).1)]; exact hk)⟩
theorem K_r {D : va_G} {t1 t2 : List (ClassId × FieldType)} {U : State} (h : va_K D vwCl (t1 ++ t2) U) : va_K D vwCl t2 U := ⟨h.1, fun k q hk => h.2 (t1.length + k) q (by rw [List.getElem?_append_right (by omega), Nat.add_sub_cancel_left]; exact hk)⟩
section LL
variable {K : Kx} {T : Tx} {b N pc : Nat} {xs : Nat → Int32} {L : List (Option Vl)} {st : List Vl} {ux um : St}
theorem l_iload_n (h : OkL K T b N xs) {i : Fin 4} {x : Int32} (hd : decode code pc = .ok (.iload_n i, 1)) (hx : L[(i : Nat)]? = some (some (.inl x))) (k : VL K T b (pc + 1) L (.inl x :: st) ux um) : VL K T b pc L st ux um := by
  obtain ⟨p, l, e, R, s, m, args, below, meth, c, Q⟩ := K
  obtain ⟨dC, dI, gx, cx, gm, cm⟩ := T
  exact fun H locs ls hP hD hS hl => lv_iload_n h.1 h.2.1 hd rfl (hl.2.2 _ _ hx) (k H locs ls hP hD hS hl)
theorem l_aload_n (h : OkL K T b N xs) {i : Fin 4} {x : Nat} (hd : decode code pc = .ok (.aload_n i, 1)) (hx : L[(i : Nat)]? = some (some (.inr x))) (k : VL K T b (pc + 1) L (.inr x :: st) ux um) : VL K T b pc L st ux um := by
  obtain ⟨p, l, e, R, s, m, args, below, meth, c, Q⟩ := K
  obtain ⟨dC, dI, gx, cx, gm, cm⟩ := T
  exact fun H locs ls hP hD hS hl => lv_aload_n h.1 h.2.1 hd rfl (hl.2.2 _ _ hx) (k H locs ls hP hD hS hl)
theorem l_iconst (h : OkL K T b N xs) {n : Int} {v : Int32} (hd : decode code pc = .ok (.iconst n, 1)) (hv : Int32.ofInt n = v) (k : VL K T b (pc + 1) L (.inl v :: st) ux um) : VL K T b pc L st ux um := by
  obtain ⟨p, l, e, R, s, m, args, below, meth, c, Q⟩ := K
  obtain ⟨dC, dI, gx, cx, gm, cm⟩ := T
  exact fun H locs ls hP hD hS hl => lv_iconst h.1 h.2.1 hd hv (k H locs ls hP hD hS hl)
theorem l_bipush (h : OkL K T b N xs) {n : Int} {v : Int32} (hd : decode code pc = .ok (.bipush n, 2)) (hv : (Int8.ofInt n).toInt32 = v) (k : VL K T b (pc + 2) L (.inl v :: st) ux um) : VL K T b pc L st ux um := by
  obtain ⟨p, l, e, R, s, m, args, below, meth, c, Q⟩ := K
  obtain ⟨dC, dI, gx, cx, gm, cm⟩ := T
  exact fun H locs ls hP hD hS hl => lv_bipush h.1 h.2.1 hd hv (k H locs ls hP hD hS hl)
theorem l_iadd (h : OkL K T b N xs) {x y : Int32} (hd : decode code pc = .ok (.iadd, 1)) (k : VL K T b (pc + 1) L (.inl (x + y) :: st) ux um) : VL K T b pc L (.inl y :: .inl x :: st) ux um := by
  obtain ⟨p, l, e, R, s, m, args, below, meth, c, Q⟩ := K
  obtain ⟨dC, dI, gx, cx, gm, cm⟩ := T
  exact fun H locs ls hP hD hS hl => lv_iadd h.1 h.2.1 hd (k H locs ls hP hD hS hl)
theorem l_isub (h : OkL K T b N xs) {x y : Int32} (hd : decode code pc = .ok (.isub, 1)) (k : VL K T b (pc + 1) L (.inl (x - y) :: st) ux um) : VL K T b pc L (.inl y :: .inl x :: st) ux um := by
  obtain ⟨p, l, e, R, s, m, args, below, meth, c, Q⟩ := K
  obtain ⟨dC, dI, gx, cx, gm, cm⟩ := T
  exact fun H locs ls hP hD hS hl => lv_isub h.1 h.2.1 hd (k H locs ls hP hD hS hl)
theorem l_iand (h : OkL K T b N xs) {x y : Int32} (hd : decode code pc = .ok (.iand, 1)) (k : VL K T b (pc + 1) L (.inl (x &&& y) :: st) ux um) : VL K T b pc L (.inl y :: .inl x :: st) ux um := by
  obtain ⟨p, l, e, R, s, m, args, below, meth, c, Q⟩ := K
  obtain ⟨dC, dI, gx, cx, gm, cm⟩ := T
  exact fun H locs ls hP hD hS hl => lv_iand h.1 h.2.1 hd (k H locs ls hP hD hS hl)
theorem l_pop (h : OkL K T b N xs) {v : Vl} (hd : decode code pc = .ok (.pop, 1)) (k : VL K T b (pc + 1) L st ux um) : VL K T b pc L (v :: st) ux um := by
  obtain ⟨p, l, e, R, s, m, args, below, meth, c, Q⟩ := K
  obtain ⟨dC, dI, gx, cx, gm, cm⟩ := T
  exact fun H locs ls hP hD hS hl => lv_pop h.1 h.2.1 hd (tv_cat _ v) (k H locs ls hP hD hS hl)
theorem l_goto (h : OkL K T b N xs) {off : Int} {tgt : Nat} (hd : decode code pc = .ok (.goto off, 3)) (ht : (pc : Int) + off = (tgt : Int)) (k : VL K T b tgt L st ux um) : VL K T b pc L st ux um := by
  obtain ⟨p, l, e, R, s, m, args, below, meth, c, Q⟩ := K
  obtain ⟨dC, dI, gx, cx, gm, cm⟩ := T
  exact fun H locs ls hP hD hS hl => lv_goto h.1 h.2.1 hd ht (k H locs ls hP hD hS hl)
theorem l_iinc (h : OkL K T b N xs) {i : Nat} {n : Int} {x v : Int32} (hd : decode code pc = .ok (.iinc i n, 3)) (hx : L[i]? = some (some (.inl x))) (hv : x + Int32.ofInt n = v) (hi : i < 4) {L' : List (Option Vl)} (hL : L.set i (some (.inl v)) = L') (k : VL K T b (pc + 3) L' st ux um) : VL K T b pc L st ux um := by
  obtain ⟨p, l, e, R, s, m, args, below, meth, c, Q⟩ := K
  obtain ⟨dC, dI, gx, cx, gm, cm⟩ := T
  intro H locs ls hP hD hS hl
  obtain ⟨kk, hk⟩ := List.getElem?_of_mem (lvl_in.mpr ⟨.inl x, hx, rfl⟩ : (i, tv (ga b gx gm) (.inl x)) ∈ lvl (ga b gx gm) L)
  exact lv_iinc h.1 h.2.1 hd hl.has hk hv hi rfl (fun ls' hl' => k H locs ls' hP hD hS (hL ▸ lvH.set (v := .inl v) hl'))
theorem l_len (h : OkL K T b N xs) (hd : decode code pc = .ok (.arraylength, 1)) (k : VL K T b (pc + 1) L (.inl (Int32.ofNat N) :: st) ux um) : VL K T b pc L (.inr 0 :: st) ux um := by
  obtain ⟨p, l, e, R, s, m, args, below, meth, c, Q⟩ := K
  obtain ⟨dC, dI, gx, cx, gm, cm⟩ := T
  obtain ⟨hx, hb, hml, hown, hts, hn, hK, hX, hbl, hR, hargs, hQ, hret, hlk⟩ := h
  exact fun H locs ls hP hD hS hl => va_slen hx hb hX hbl (Nat.not_le.mpr hbl) hS hd (k H locs ls hP hD hS hl)
theorem l_sld (h : OkL K T b N xs) {i v : Int32} (hi : vp_in i N) (hv : xs i.toNatClampNeg = v) (hd : decode code pc = .ok (.iaload, 1)) (k : VL K T b (pc + 1) L (.inl v :: st) ux um) : VL K T b pc L (.inl i :: .inr 0 :: st) ux um := by
  obtain ⟨p, l, e, R, s, m, args, below, meth, c, Q⟩ := K
  obtain ⟨dC, dI, gx, cx, gm, cm⟩ := T
  obtain ⟨hx, hb, hml, hown, hts, hn, hK, hX, hbl, hR, hargs, hQ, hret, hlk⟩ := h
  subst hv
  exact fun H locs ls hP hD hS hl => va_sld hx hb hX hbl (Nat.not_le.mpr hbl) hS hi hd (k H locs ls hP hD hS hl)
theorem l_gt (h : OkL K T b N xs) {x y : Int32} {off : Int} {tgt : Nat} (hd : decode code pc = .ok (.if_icmp .gt off, 3)) (ht : (pc : Int) + off = (tgt : Int)) (kt : y < x → VL K T b tgt L st ux um) (kf : ¬ (y < x) → VL K T b (pc + 3) L st ux um) : VL K T b pc L (.inl y :: .inl x :: st) ux um := by
  obtain ⟨p, l, e, R, s, m, args, below, meth, c, Q⟩ := K
  obtain ⟨dC, dI, gx, cx, gm, cm⟩ := T
  exact fun H locs ls hP hD hS hl => lv_icmp_gt h.1 h.2.1 hd ht (fun q => kt q H locs ls hP hD hS hl) (fun q => kf q H locs ls hP hD hS hl)
theorem l_eq (h : OkL K T b N xs) {x y : Int32} {off : Int} {tgt : Nat} (hd : decode code pc = .ok (.if_icmp .eq off, 3)) (ht : (pc : Int) + off = (tgt : Int)) (exy : x = y) (kt : VL K T b tgt L st ux um) : VL K T b pc L (.inl y :: .inl x :: st) ux um := by
  obtain ⟨p, l, e, R, s, m, args, below, meth, c, Q⟩ := K
  obtain ⟨dC, dI, gx, cx, gm, cm⟩ := T
  exact fun H locs ls hP hD hS hl => lv_icmp_eq h.1 h.2.1 hd ht (fun q => kt H locs ls hP hD hS hl) (fun q => absurd exy q)
theorem l_tOut (h : OkL K T b N xs) {dflt lo hi : Int} {offs : Array Int} {len : Nat} {x : Int32} {tgt : Nat} (hd : decode code pc = .ok (.tableswitch dflt lo hi offs, len)) (ho : x.toInt < lo ∨ hi < x.toInt) (ht : (pc : Int) + dflt = (tgt : Int)) (kk : VL K T b tgt L st ux um) : VL K T b pc L (.inl x :: st) ux um := by
  obtain ⟨p, l, e, R, s, m, args, below, meth, c, Q⟩ := K
  obtain ⟨dC, dI, gx, cx, gm, cm⟩ := T
  exact fun H locs ls hP hD hS hl => lv_tableOut h.1 h.2.1 hd ho ht (kk H locs ls hP hD hS hl)
theorem l_tIn (h : OkL K T b N xs) {dflt lo hi : Int} {offs : Array Int} {len : Nat} {x : Int32} {off : Int} {tgt : Nat} (hd : decode code pc = .ok (.tableswitch dflt lo hi offs, len)) (h1 : ¬ x.toInt < lo) (h2 : ¬ hi < x.toInt) (ho : offs[(x.toInt - lo).toNat]? = some off) (ht : (pc : Int) + off = (tgt : Int)) (kk : VL K T b tgt L st ux um) : VL K T b pc L (.inl x :: st) ux um := by
  obtain ⟨p, l, e, R, s, m, args, below, meth, c, Q⟩ := K
  obtain ⟨dC, dI, gx, cx, gm, cm⟩ := T
  exact fun H locs ls hP hD hS hl => lv_tableIn h.1 h.2.1 hd h1 h2 ho ht (kk H locs ls hP hD hS hl)
theorem l_ret (h : OkL K T b N xs) (hd : decode code pc = .ok (.ireturn, 1)) : VL K T b pc L [.inl 1] ux um := by
  obtain ⟨p, l, e, R, s, m, args, below, meth, c, Q⟩ := K
  obtain ⟨dC, dI, gx, cx, gm, cm⟩ := T
  obtain ⟨hx, hb, hml, hown, hts, hn, hK, hX, hbl, hR, hargs, hQ, hret, hlk⟩ := h
  subst hR; subst hargs; subst hQ
  intro H locs ls hP hD hS hl
  refine va_forget (fun q hq => hS.2.2 q hq) ?_
  exact lw_ret hx hb hret hlk hd
theorem l_cX (h : OkL K T b N xs) {y : MethodName} {bytes : ByteArray} {maxL : Nat} {rm2 : Room} {idx : Nat} {r : Int32 × St} {fl : List (Option Nat)} {q : vw_C} (As : List Int32) (hc : CalV y bytes maxL (some .int) As.length) (hl : Cond.methodLink RL idx y ∈ gtbl) (hM : CtI shX y bytes maxL (some .int) rm2 (.inr 0 :: As.map .inl) ux r.1 r.2) (hR2 : rm2.cells = 0 ∧ rm2.slots = 0 ∧ rm2.frames + 1 ≤ room_1.frames ∧ 8 + (maxL + 11) + rm2.locals ≤ room_1.locals) (hs : shX[0]? = some (.inl (6, fl))) (hq : vwCl[6]? = some q) (hqc : q.1 = y.cls) (hst : st.length ≤ 8) (hd : decode code pc = .ok (.invokevirtual idx, 3)) (k : VL K T b (pc + 3) L (.inl r.1 :: st) r.2 um) : VL K T b pc L ((As.map .inl).reverse ++ .inr 1 :: st) ux um := by
  obtain ⟨p, l, e, R, s, m, args, below, meth, c, Q⟩ := K
  obtain ⟨dC, dI, gx, cx, gm, cm⟩ := T
  obtain ⟨hx, hb, hml, hown, hts, hn, hK, hX, hbl, hR, hargs, hQ, hret, hlk⟩ := h
  obtain ⟨c1, c2, c3, c4, c5⟩ := hc
  obtain ⟨f1, f2, f3, f4⟩ := hR2
  subst hR
  intro H locs ls hP hD hS hls
  have hA : ∀ q : Nat, s.heap.size ≤ q → (fun q : Nat => s.heap.size ≤ q) q := fun _ h => h
  have hG : GoodIn gtbl (wsV RL idx y.cls y (Cond.code y bytes maxL (some .int) :: gtbl)) := good_in (fun w hw => by
    simp only [wsV, List.cons_append, List.nil_append, List.mem_cons] at hw
    rcases hw with rfl | rfl | rfl | rfl | rfl | hw
    · exact hl
    · exact c2
    · exact c3
    · exact c4
    · exact c1
    · exact hw)
  have hPc := P_l hP
  have hDc := D_l hD
  have hKc := K_l hK
  have hrv := va_recv hKc hPc hq (wld_get hs)
  rw [hqc] at hrv
  have hint : ∀ g : Nat → Nat, (As.map (Sum.inl : Int32 → Vl)).map (tv g) = As.map Value.int := fun g => by simp [tv, Function.comp_def]
  have hFc := fr_l hD hS hA
  refine va_calli (va_runV (C := y.cls) (b := gx 0) (As := As.map Value.int) (rest := st.map (tv (ga b gx gm))) ⟨hx, hb, hml, hown, hts⟩ (hM l gx dC dI cx H.size) (cwV As.length hts hG rfl f1 f2 ⟨rfl, c5⟩ ⟨f3, f4⟩) ⟨pc_blind shX gx dC dI cx ux H.size _, hrv, fun U hU hW => ⟨by simp [tv, Function.comp_def], pc_at hPc hKc hDc hn U hU hW⟩⟩ rfl (by simp) hls.1 (by simp [F0, List.map_append, List.map_reverse, tv, ga, Function.comp_def]) (lv_room (by rw [st_sum]; exact hst)) hd ⟨Nat.le_of_ble_eq_true rfl, Nat.le_of_ble_eq_true rfl⟩) hS (fun q _ h => hFc q h) hFc (fun r' _ t H1 locs1 ht hvm hw hB hz1 hk1 hS1 => ?_)
  subst hw
  subst ht
  obtain ⟨hP2, hD2⟩ := join_l hP hD hk1 hFc hB (wld_D hDc.self)
  exact k _ locs1 ls hP2 hD2 hS1 hls
theorem l_cM (h : OkL K T b N xs) {y : MethodName} {bytes : ByteArray} {maxL : Nat} {rm2 : Room} {idx : Nat} {r : Int32 × St} {fl : List (Option Nat)} {q : vw_C} (As : List Int32) (hc : CalV y bytes maxL (some .int) As.length) (hl : Cond.methodLink RL idx y ∈ gtbl) (hM : CtI shM y bytes maxL (some .int) rm2 (.inr 0 :: As.map .inl) um r.1 r.2) (hR2 : rm2.cells = 0 ∧ rm2.slots = 0 ∧ rm2.frames + 1 ≤ room_1.frames ∧ 8 + (maxL + 11) + rm2.locals ≤ room_1.locals) (hs : shM[0]? = some (.inl (7, fl))) (hq : vwCl[7]? = some q) (hqc : q.1 = y.cls) (hst : st.length ≤ 8) (hd : decode code pc = .ok (.invokevirtual idx, 3)) (k : VL K T b (pc + 3) L (.inl r.1 :: st) ux r.2) : VL K T b pc L ((As.map .inl).reverse ++ .inr 2 :: st) ux um := by
  obtain ⟨p, l, e, R, s, m, args, below, meth, c, Q⟩ := K
  obtain ⟨dC, dI, gx, cx, gm, cm⟩ := T
  obtain ⟨hx, hb, hml, hown, hts, hn, hK, hX, hbl, hR, hargs, hQ, hret, hlk⟩ := h
  obtain ⟨c1, c2, c3, c4, c5⟩ := hc
  obtain ⟨f1, f2, f3, f4⟩ := hR2
  subst hR
  intro H locs ls hP hD hS hls
  have hA : ∀ q : Nat, s.heap.size ≤ q → (fun q : Nat => s.heap.size ≤ q) q := fun _ h => h
  have hG : GoodIn gtbl (wsV RL idx y.cls y (Cond.code y bytes maxL (some .int) :: gtbl)) := good_in (fun w hw => by
    simp only [wsV, List.cons_append, List.nil_append, List.mem_cons] at hw
    rcases hw with rfl | rfl | rfl | rfl | rfl | hw
    · exact hl
    · exact c2
    · exact c3
    · exact c4
    · exact c1
    · exact hw)
  have hPc := P_r hP
  have hDc := D_r hD
  have hKc := K_r hK
  have hrv := va_recv hKc hPc hq (wld_get hs)
  rw [hqc] at hrv
  have hint : ∀ g : Nat → Nat, (As.map (Sum.inl : Int32 → Vl)).map (tv g) = As.map Value.int := fun g => by simp [tv, Function.comp_def]
  have hFc := fr_r hD hS hA
  refine va_calli (va_runV (C := y.cls) (b := gm 0) (As := As.map Value.int) (rest := st.map (tv (ga b gx gm))) ⟨hx, hb, hml, hown, hts⟩ (hM l gm dC dI cm H.size) (cwV As.length hts hG rfl f1 f2 ⟨rfl, c5⟩ ⟨f3, f4⟩) ⟨pc_blind shM gm dC dI cm um H.size _, hrv, fun U hU hW => ⟨by simp [tv, Function.comp_def], pc_at hPc hKc hDc hn U hU hW⟩⟩ rfl (by simp) hls.1 (by simp [F0, List.map_append, List.map_reverse, tv, ga, Function.comp_def]) (lv_room (by rw [st_sum]; exact hst)) hd ⟨Nat.le_of_ble_eq_true rfl, Nat.le_of_ble_eq_true rfl⟩) hS (fun q _ h => hFc q h) hFc (fun r' _ t H1 locs1 ht hvm hw hB hz1 hk1 hS1 => ?_)
  subst hw
  subst ht
  obtain ⟨hP2, hD2⟩ := join_r hP hD hk1 hFc hB (wld_D hDc.self)
  exact k _ locs1 ls hP2 hD2 hS1 hls
end LL
