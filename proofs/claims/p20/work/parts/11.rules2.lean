/-! ===== the slim walk: one judgement of a frame over the world of one side ===== -/
abbrev Kx : Type := Program × Launch × Env × Room × State × MethodId × Array Value × List Frame × Method × Code × (State → Prop)
abbrev Ex : Type := (Nat → Nat) × (Nat → ClassId) × (Nat → Nat → Nat) × (Nat → ClassId) × (Nat → Prop)
def Vd (sh : Sh) (K : Kx) (E : Ex) (nL pc : Nat) (L : List (Option Vl)) (st : List Vl) (u : St) : Prop := match K, E with
  | (p, l, e, R, s, m, args, below, meth, c, Q), (g, dC, dI, cA, A) => ∀ (H : Heap) (locs : List Loc) (ls : Array Slot), va_P (dC, dI) vwCl (wld sh g cA u) H → va_D A (wld sh g cA u) → va_S A s.heap H locs → lvH g ls nL L → W p l e R s m args below meth c H locs 0 0 Q (F0 m pc ls (st.map (tv g)))
def Ok (sh : Sh) (K : Kx) (E : Ex) (own : String) (cc : ByteArray) (nL : Nat) (rm : Room) : Prop := match K, E with
  | (p, _, _, R, s, m, args, _, _, c, _), (_, dC, dI, cA, A) => p.tables.exec = Jvm.exec ∧ c.code = cc ∧ c.maxLocals = nL ∧ s.vm.findClass own = some m.cls ∧ (∀ w ∈ gtbl, w.before args s = true) ∧ (∀ w ∈ nst, va_Nw w s) ∧ va_K (dC, dI) vwCl (tys sh cA) s ∧ (∀ q, s.heap.size ≤ q → A q) ∧ R = rm
section RL
variable {sh : Sh} {K : Kx} {E : Ex} {own : String} {cc : ByteArray} {nL pc : Nat} {rm : Room} {L : List (Option Vl)} {st : List Vl} {u : St}
theorem r_le (L' : List (Option Vl)) (hl : leL L L') (k : Vd sh K E nL pc L' st u) : Vd sh K E nL pc L st u := by
  obtain ⟨p, l, e, R, s, m, args, below, meth, c, Q⟩ := K
  obtain ⟨g, dC, dI, cA, A⟩ := E
  exact fun H locs ls hP hD hS hl' => k H locs ls hP hD hS (hl'.le hl)
theorem r_iload_n (h : Ok sh K E own cc nL rm) {i : Fin 4} {x : Int32} (hd : decode cc pc = .ok (.iload_n i, 1)) (hx : L[(i : Nat)]? = some (some (.inl x))) (k : Vd sh K E nL (pc + 1) L (.inl x :: st) u) : Vd sh K E nL pc L st u := by
  obtain ⟨p, l, e, R, s, m, args, below, meth, c, Q⟩ := K
  obtain ⟨g, dC, dI, cA, A⟩ := E
  exact fun H locs ls hP hD hS hl => lv_iload_n h.1 h.2.1 hd rfl (hl.2.2 _ _ hx) (k H locs ls hP hD hS hl)
theorem r_iload (h : Ok sh K E own cc nL rm) {i : Nat} {x : Int32} (hd : decode cc pc = .ok (.iload i, 2)) (hx : L[i]? = some (some (.inl x))) (k : Vd sh K E nL (pc + 2) L (.inl x :: st) u) : Vd sh K E nL pc L st u := by
  obtain ⟨p, l, e, R, s, m, args, below, meth, c, Q⟩ := K
  obtain ⟨g, dC, dI, cA, A⟩ := E
  exact fun H locs ls hP hD hS hl => lv_iload h.1 h.2.1 hd (hl.2.2 _ _ hx) (k H locs ls hP hD hS hl)
theorem r_aload_n (h : Ok sh K E own cc nL rm) {i : Fin 4} {x : Nat} (hd : decode cc pc = .ok (.aload_n i, 1)) (hx : L[(i : Nat)]? = some (some (.inr x))) (k : Vd sh K E nL (pc + 1) L (.inr x :: st) u) : Vd sh K E nL pc L st u := by
  obtain ⟨p, l, e, R, s, m, args, below, meth, c, Q⟩ := K
  obtain ⟨g, dC, dI, cA, A⟩ := E
  exact fun H locs ls hP hD hS hl => lv_aload_n h.1 h.2.1 hd rfl (hl.2.2 _ _ hx) (k H locs ls hP hD hS hl)
theorem r_istore_n (h : Ok sh K E own cc nL rm) {i : Fin 4} {x : Int32} (hd : decode cc pc = .ok (.istore_n i, 1)) (hi : (i : Nat) < nL) {L' : List (Option Vl)} (hL : L.set i (some (.inl x)) = L') (k : Vd sh K E nL (pc + 1) L' st u) : Vd sh K E nL pc L (.inl x :: st) u := by
  obtain ⟨p, l, e, R, s, m, args, below, meth, c, Q⟩ := K
  obtain ⟨g, dC, dI, cA, A⟩ := E
  exact fun H locs ls hP hD hS hl => lv_istore_n h.1 h.2.1 hd rfl hl.has hi rfl (fun ls' hl' => k H locs ls' hP hD hS (hL ▸ lvH.set (v := .inl x) hl'))
theorem r_istore (h : Ok sh K E own cc nL rm) {i : Nat} {x : Int32} (hd : decode cc pc = .ok (.istore i, 2)) (hi : i < nL) {L' : List (Option Vl)} (hL : L.set i (some (.inl x)) = L') (k : Vd sh K E nL (pc + 2) L' st u) : Vd sh K E nL pc L (.inl x :: st) u := by
  obtain ⟨p, l, e, R, s, m, args, below, meth, c, Q⟩ := K
  obtain ⟨g, dC, dI, cA, A⟩ := E
  exact fun H locs ls hP hD hS hl => lv_istore h.1 h.2.1 hd hl.has hi rfl (fun ls' hl' => k H locs ls' hP hD hS (hL ▸ lvH.set (v := .inl x) hl'))
theorem r_iinc (h : Ok sh K E own cc nL rm) {i : Nat} {n : Int} {x v : Int32} (hd : decode cc pc = .ok (.iinc i n, 3)) (hx : L[i]? = some (some (.inl x))) (hv : x + Int32.ofInt n = v) (hi : i < nL) {L' : List (Option Vl)} (hL : L.set i (some (.inl v)) = L') (k : Vd sh K E nL (pc + 3) L' st u) : Vd sh K E nL pc L st u := by
  obtain ⟨p, l, e, R, s, m, args, below, meth, c, Q⟩ := K
  obtain ⟨g, dC, dI, cA, A⟩ := E
  intro H locs ls hP hD hS hl
  obtain ⟨kk, hk⟩ := List.getElem?_of_mem (lvl_in.mpr ⟨.inl x, hx, rfl⟩ : (i, tv g (.inl x)) ∈ lvl g L)
  exact lv_iinc h.1 h.2.1 hd hl.has hk hv hi rfl (fun ls' hl' => k H locs ls' hP hD hS (hL ▸ lvH.set (v := .inl v) hl'))
theorem r_iconst (h : Ok sh K E own cc nL rm) {n : Int} {v : Int32} (hd : decode cc pc = .ok (.iconst n, 1)) (hv : Int32.ofInt n = v) (k : Vd sh K E nL (pc + 1) L (.inl v :: st) u) : Vd sh K E nL pc L st u := by
  obtain ⟨p, l, e, R, s, m, args, below, meth, c, Q⟩ := K
  obtain ⟨g, dC, dI, cA, A⟩ := E
  exact fun H locs ls hP hD hS hl => lv_iconst h.1 h.2.1 hd hv (k H locs ls hP hD hS hl)
theorem r_bipush (h : Ok sh K E own cc nL rm) {n : Int} {v : Int32} (hd : decode cc pc = .ok (.bipush n, 2)) (hv : (Int8.ofInt n).toInt32 = v) (k : Vd sh K E nL (pc + 2) L (.inl v :: st) u) : Vd sh K E nL pc L st u := by
  obtain ⟨p, l, e, R, s, m, args, below, meth, c, Q⟩ := K
  obtain ⟨g, dC, dI, cA, A⟩ := E
  exact fun H locs ls hP hD hS hl => lv_bipush h.1 h.2.1 hd hv (k H locs ls hP hD hS hl)
theorem r_sipush (h : Ok sh K E own cc nL rm) {n : Int} {v : Int32} (hd : decode cc pc = .ok (.sipush n, 3)) (hv : (Int16.ofInt n).toInt32 = v) (k : Vd sh K E nL (pc + 3) L (.inl v :: st) u) : Vd sh K E nL pc L st u := by
  obtain ⟨p, l, e, R, s, m, args, below, meth, c, Q⟩ := K
  obtain ⟨g, dC, dI, cA, A⟩ := E
  exact fun H locs ls hP hD hS hl => lv_sipush h.1 h.2.1 hd hv (k H locs ls hP hD hS hl)
theorem r_ldc (h : Ok sh K E own cc nL rm) {idx : Nat} {v : Int32} (hd : decode cc pc = .ok (.ldc idx, 2)) (hc : Cond.constant own idx v ∈ gtbl) (k : Vd sh K E nL (pc + 2) L (.inl v :: st) u) : Vd sh K E nL pc L st u := by
  obtain ⟨p, l, e, R, s, m, args, below, meth, c, Q⟩ := K
  obtain ⟨g, dC, dI, cA, A⟩ := E
  exact fun H locs ls hP hD hS hl => lv_ldc h.1 h.2.1 h.2.2.2.1 (h.2.2.2.2.1 _ hc) hd (k H locs ls hP hD hS hl)
theorem r_ldcw (h : Ok sh K E own cc nL rm) {idx : Nat} {v : Int32} (hd : decode cc pc = .ok (.ldc_w idx, 3)) (hc : Cond.constant own idx v ∈ gtbl) (k : Vd sh K E nL (pc + 3) L (.inl v :: st) u) : Vd sh K E nL pc L st u := by
  obtain ⟨p, l, e, R, s, m, args, below, meth, c, Q⟩ := K
  obtain ⟨g, dC, dI, cA, A⟩ := E
  exact fun H locs ls hP hD hS hl => lv_ldcw h.1 h.2.1 h.2.2.2.1 (h.2.2.2.2.1 _ hc) hd (k H locs ls hP hD hS hl)
theorem r_goto (h : Ok sh K E own cc nL rm) {off : Int} {tgt : Nat} (hd : decode cc pc = .ok (.goto off, 3)) (ht : (pc : Int) + off = (tgt : Int)) (k : Vd sh K E nL tgt L st u) : Vd sh K E nL pc L st u := by
  obtain ⟨p, l, e, R, s, m, args, below, meth, c, Q⟩ := K
  obtain ⟨g, dC, dI, cA, A⟩ := E
  exact fun H locs ls hP hD hS hl => lv_goto h.1 h.2.1 hd ht (k H locs ls hP hD hS hl)
theorem r_pop (h : Ok sh K E own cc nL rm) {v : Vl} (hd : decode cc pc = .ok (.pop, 1)) (k : Vd sh K E nL (pc + 1) L st u) : Vd sh K E nL pc L (v :: st) u := by
  obtain ⟨p, l, e, R, s, m, args, below, meth, c, Q⟩ := K
  obtain ⟨g, dC, dI, cA, A⟩ := E
  exact fun H locs ls hP hD hS hl => lv_pop h.1 h.2.1 hd (tv_cat g v) (k H locs ls hP hD hS hl)
theorem r_dup (h : Ok sh K E own cc nL rm) {v : Vl} (hd : decode cc pc = .ok (.dup, 1)) (k : Vd sh K E nL (pc + 1) L (v :: v :: st) u) : Vd sh K E nL pc L (v :: st) u := by
  obtain ⟨p, l, e, R, s, m, args, below, meth, c, Q⟩ := K
  obtain ⟨g, dC, dI, cA, A⟩ := E
  exact fun H locs ls hP hD hS hl => lv_dup h.1 h.2.1 hd (tv_cat g v) (k H locs ls hP hD hS hl)
theorem r_dup2 (h : Ok sh K E own cc nL rm) {v w : Vl} (hd : decode cc pc = .ok (.dup2, 1)) (k : Vd sh K E nL (pc + 1) L (v :: w :: v :: w :: st) u) : Vd sh K E nL pc L (v :: w :: st) u := by
  obtain ⟨p, l, e, R, s, m, args, below, meth, c, Q⟩ := K
  obtain ⟨g, dC, dI, cA, A⟩ := E
  exact fun H locs ls hP hD hS hl => lv_dup2_11 h.1 h.2.1 hd (tv_cat g v) (tv_cat g w) (k H locs ls hP hD hS hl)
theorem r_idiv (h : Ok sh K E own cc nL rm) {x y : Int32} (hd : decode cc pc = .ok (.idiv, 1)) (hy : ¬ y = 0) (k : Vd sh K E nL (pc + 1) L (.inl (x / y) :: st) u) : Vd sh K E nL pc L (.inl y :: .inl x :: st) u := by
  obtain ⟨p, l, e, R, s, m, args, below, meth, c, Q⟩ := K
  obtain ⟨g, dC, dI, cA, A⟩ := E
  exact fun H locs ls hP hD hS hl => lv_idiv h.1 h.2.1 hd hy (k H locs ls hP hD hS hl)
theorem r_irem (h : Ok sh K E own cc nL rm) {x y : Int32} (hd : decode cc pc = .ok (.irem, 1)) (hy : ¬ y = 0) (k : Vd sh K E nL (pc + 1) L (.inl (x - x / y * y) :: st) u) : Vd sh K E nL pc L (.inl y :: .inl x :: st) u := by
  obtain ⟨p, l, e, R, s, m, args, below, meth, c, Q⟩ := K
  obtain ⟨g, dC, dI, cA, A⟩ := E
  exact fun H locs ls hP hD hS hl => lv_irem h.1 h.2.1 hd hy (k H locs ls hP hD hS hl)
def jushr (x y : Int32) : Int32 := (x.toUInt32 >>> (y.toUInt32 &&& Int32.toUInt32 31)).toInt32
theorem r_iushr (h : Ok sh K E own cc nL rm) {x y : Int32} (hd : decode cc pc = .ok (.iushr, 1)) (k : Vd sh K E nL (pc + 1) L (.inl (jushr x y) :: st) u) : Vd sh K E nL pc L (.inl y :: .inl x :: st) u := by
  obtain ⟨p, l, e, R, s, m, args, below, meth, c, Q⟩ := K
  obtain ⟨g, dC, dI, cA, A⟩ := E
  exact fun H locs ls hP hD hS hl => lv_iushr h.1 h.2.1 hd rfl (k H locs ls hP hD hS hl)
theorem r_iadd (h : Ok sh K E own cc nL rm) {x y : Int32} (hd : decode cc pc = .ok (.iadd, 1)) (k : Vd sh K E nL (pc + 1) L (.inl (x + y) :: st) u) : Vd sh K E nL pc L (.inl y :: .inl x :: st) u := by
  obtain ⟨p, l, e, R, s, m, args, below, meth, c, Q⟩ := K
  obtain ⟨g, dC, dI, cA, A⟩ := E
  exact fun H locs ls hP hD hS hl => lv_iadd h.1 h.2.1 hd (k H locs ls hP hD hS hl)
theorem r_isub (h : Ok sh K E own cc nL rm) {x y : Int32} (hd : decode cc pc = .ok (.isub, 1)) (k : Vd sh K E nL (pc + 1) L (.inl (x - y) :: st) u) : Vd sh K E nL pc L (.inl y :: .inl x :: st) u := by
  obtain ⟨p, l, e, R, s, m, args, below, meth, c, Q⟩ := K
  obtain ⟨g, dC, dI, cA, A⟩ := E
  exact fun H locs ls hP hD hS hl => lv_isub h.1 h.2.1 hd (k H locs ls hP hD hS hl)
theorem r_imul (h : Ok sh K E own cc nL rm) {x y : Int32} (hd : decode cc pc = .ok (.imul, 1)) (k : Vd sh K E nL (pc + 1) L (.inl (x * y) :: st) u) : Vd sh K E nL pc L (.inl y :: .inl x :: st) u := by
  obtain ⟨p, l, e, R, s, m, args, below, meth, c, Q⟩ := K
  obtain ⟨g, dC, dI, cA, A⟩ := E
  exact fun H locs ls hP hD hS hl => lv_imul h.1 h.2.1 hd (k H locs ls hP hD hS hl)
theorem r_iand (h : Ok sh K E own cc nL rm) {x y : Int32} (hd : decode cc pc = .ok (.iand, 1)) (k : Vd sh K E nL (pc + 1) L (.inl (x &&& y) :: st) u) : Vd sh K E nL pc L (.inl y :: .inl x :: st) u := by
  obtain ⟨p, l, e, R, s, m, args, below, meth, c, Q⟩ := K
  obtain ⟨g, dC, dI, cA, A⟩ := E
  exact fun H locs ls hP hD hS hl => lv_iand h.1 h.2.1 hd (k H locs ls hP hD hS hl)
theorem r_ior (h : Ok sh K E own cc nL rm) {x y : Int32} (hd : decode cc pc = .ok (.ior, 1)) (k : Vd sh K E nL (pc + 1) L (.inl (x ||| y) :: st) u) : Vd sh K E nL pc L (.inl y :: .inl x :: st) u := by
  obtain ⟨p, l, e, R, s, m, args, below, meth, c, Q⟩ := K
  obtain ⟨g, dC, dI, cA, A⟩ := E
  exact fun H locs ls hP hD hS hl => lv_ior h.1 h.2.1 hd (k H locs ls hP hD hS hl)
theorem r_ixor (h : Ok sh K E own cc nL rm) {x y : Int32} (hd : decode cc pc = .ok (.ixor, 1)) (k : Vd sh K E nL (pc + 1) L (.inl (x ^^^ y) :: st) u) : Vd sh K E nL pc L (.inl y :: .inl x :: st) u := by
  obtain ⟨p, l, e, R, s, m, args, below, meth, c, Q⟩ := K
  obtain ⟨g, dC, dI, cA, A⟩ := E
  exact fun H locs ls hP hD hS hl => lv_ixor h.1 h.2.1 hd (k H locs ls hP hD hS hl)
theorem r_ishl (h : Ok sh K E own cc nL rm) {x y : Int32} (hd : decode cc pc = .ok (.ishl, 1)) (k : Vd sh K E nL (pc + 1) L (.inl (x <<< (y &&& 31)) :: st) u) : Vd sh K E nL pc L (.inl y :: .inl x :: st) u := by
  obtain ⟨p, l, e, R, s, m, args, below, meth, c, Q⟩ := K
  obtain ⟨g, dC, dI, cA, A⟩ := E
  exact fun H locs ls hP hD hS hl => lv_ishl h.1 h.2.1 hd (k H locs ls hP hD hS hl)
theorem r_ishr (h : Ok sh K E own cc nL rm) {x y : Int32} (hd : decode cc pc = .ok (.ishr, 1)) (k : Vd sh K E nL (pc + 1) L (.inl (x >>> (y &&& 31)) :: st) u) : Vd sh K E nL pc L (.inl y :: .inl x :: st) u := by
  obtain ⟨p, l, e, R, s, m, args, below, meth, c, Q⟩ := K
  obtain ⟨g, dC, dI, cA, A⟩ := E
  exact fun H locs ls hP hD hS hl => lv_ishr h.1 h.2.1 hd (k H locs ls hP hD hS hl)
theorem r_if_eq (h : Ok sh K E own cc nL rm) {x : Int32} {off : Int} {tgt : Nat} (hd : decode cc pc = .ok (.ifCond .eq off, 3)) (ht : (pc : Int) + off = (tgt : Int)) (kt : x = 0 → Vd sh K E nL tgt L st u) (kf : ¬ (x = 0) → Vd sh K E nL (pc + 3) L st u) : Vd sh K E nL pc L (.inl x :: st) u := by
  obtain ⟨p, l, e, R, s, m, args, below, meth, c, Q⟩ := K
  obtain ⟨g, dC, dI, cA, A⟩ := E
  exact fun H locs ls hP hD hS hl => lv_if_eq h.1 h.2.1 hd ht (fun q => kt q H locs ls hP hD hS hl) (fun q => kf q H locs ls hP hD hS hl)
theorem r_if_ne (h : Ok sh K E own cc nL rm) {x : Int32} {off : Int} {tgt : Nat} (hd : decode cc pc = .ok (.ifCond .ne off, 3)) (ht : (pc : Int) + off = (tgt : Int)) (kt : ¬ x = 0 → Vd sh K E nL tgt L st u) (kf : x = 0 → Vd sh K E nL (pc + 3) L st u) : Vd sh K E nL pc L (.inl x :: st) u := by
  obtain ⟨p, l, e, R, s, m, args, below, meth, c, Q⟩ := K
  obtain ⟨g, dC, dI, cA, A⟩ := E
  exact fun H locs ls hP hD hS hl => lv_if_ne h.1 h.2.1 hd ht (fun q => kt q H locs ls hP hD hS hl) (fun q => kf q H locs ls hP hD hS hl)
theorem r_if_lt (h : Ok sh K E own cc nL rm) {x : Int32} {off : Int} {tgt : Nat} (hd : decode cc pc = .ok (.ifCond .lt off, 3)) (ht : (pc : Int) + off = (tgt : Int)) (kt : x < 0 → Vd sh K E nL tgt L st u) (kf : ¬ (x < 0) → Vd sh K E nL (pc + 3) L st u) : Vd sh K E nL pc L (.inl x :: st) u := by
  obtain ⟨p, l, e, R, s, m, args, below, meth, c, Q⟩ := K
  obtain ⟨g, dC, dI, cA, A⟩ := E
  exact fun H locs ls hP hD hS hl => lv_if_lt h.1 h.2.1 hd ht (fun q => kt q H locs ls hP hD hS hl) (fun q => kf q H locs ls hP hD hS hl)
theorem r_if_ge (h : Ok sh K E own cc nL rm) {x : Int32} {off : Int} {tgt : Nat} (hd : decode cc pc = .ok (.ifCond .ge off, 3)) (ht : (pc : Int) + off = (tgt : Int)) (kt : 0 ≤ x → Vd sh K E nL tgt L st u) (kf : ¬ (0 ≤ x) → Vd sh K E nL (pc + 3) L st u) : Vd sh K E nL pc L (.inl x :: st) u := by
  obtain ⟨p, l, e, R, s, m, args, below, meth, c, Q⟩ := K
  obtain ⟨g, dC, dI, cA, A⟩ := E
  exact fun H locs ls hP hD hS hl => lv_if_ge h.1 h.2.1 hd ht (fun q => kt q H locs ls hP hD hS hl) (fun q => kf q H locs ls hP hD hS hl)
theorem r_if_gt (h : Ok sh K E own cc nL rm) {x : Int32} {off : Int} {tgt : Nat} (hd : decode cc pc = .ok (.ifCond .gt off, 3)) (ht : (pc : Int) + off = (tgt : Int)) (kt : 0 < x → Vd sh K E nL tgt L st u) (kf : ¬ (0 < x) → Vd sh K E nL (pc + 3) L st u) : Vd sh K E nL pc L (.inl x :: st) u := by
  obtain ⟨p, l, e, R, s, m, args, below, meth, c, Q⟩ := K
  obtain ⟨g, dC, dI, cA, A⟩ := E
  exact fun H locs ls hP hD hS hl => lv_if_gt h.1 h.2.1 hd ht (fun q => kt q H locs ls hP hD hS hl) (fun q => kf q H locs ls hP hD hS hl)
theorem r_if_le (h : Ok sh K E own cc nL rm) {x : Int32} {off : Int} {tgt : Nat} (hd : decode cc pc = .ok (.ifCond .le off, 3)) (ht : (pc : Int) + off = (tgt : Int)) (kt : x ≤ 0 → Vd sh K E nL tgt L st u) (kf : ¬ (x ≤ 0) → Vd sh K E nL (pc + 3) L st u) : Vd sh K E nL pc L (.inl x :: st) u := by
  obtain ⟨p, l, e, R, s, m, args, below, meth, c, Q⟩ := K
  obtain ⟨g, dC, dI, cA, A⟩ := E
  exact fun H locs ls hP hD hS hl => lv_if_le h.1 h.2.1 hd ht (fun q => kt q H locs ls hP hD hS hl) (fun q => kf q H locs ls hP hD hS hl)
theorem r_icmp_eq (h : Ok sh K E own cc nL rm) {x y : Int32} {off : Int} {tgt : Nat} (hd : decode cc pc = .ok (.if_icmp .eq off, 3)) (ht : (pc : Int) + off = (tgt : Int)) (kt : x = y → Vd sh K E nL tgt L st u) (kf : ¬ (x = y) → Vd sh K E nL (pc + 3) L st u) : Vd sh K E nL pc L (.inl y :: .inl x :: st) u := by
  obtain ⟨p, l, e, R, s, m, args, below, meth, c, Q⟩ := K
  obtain ⟨g, dC, dI, cA, A⟩ := E
  exact fun H locs ls hP hD hS hl => lv_icmp_eq h.1 h.2.1 hd ht (fun q => kt q H locs ls hP hD hS hl) (fun q => kf q H locs ls hP hD hS hl)
theorem r_icmp_ne (h : Ok sh K E own cc nL rm) {x y : Int32} {off : Int} {tgt : Nat} (hd : decode cc pc = .ok (.if_icmp .ne off, 3)) (ht : (pc : Int) + off = (tgt : Int)) (kt : ¬ x = y → Vd sh K E nL tgt L st u) (kf : x = y → Vd sh K E nL (pc + 3) L st u) : Vd sh K E nL pc L (.inl y :: .inl x :: st) u := by
  obtain ⟨p, l, e, R, s, m, args, below, meth, c, Q⟩ := K
  obtain ⟨g, dC, dI, cA, A⟩ := E
  exact fun H locs ls hP hD hS hl => lv_icmp_ne h.1 h.2.1 hd ht (fun q => kt q H locs ls hP hD hS hl) (fun q => kf q H locs ls hP hD hS hl)
theorem r_icmp_lt (h : Ok sh K E own cc nL rm) {x y : Int32} {off : Int} {tgt : Nat} (hd : decode cc pc = .ok (.if_icmp .lt off, 3)) (ht : (pc : Int) + off = (tgt : Int)) (kt : x < y → Vd sh K E nL tgt L st u) (kf : ¬ (x < y) → Vd sh K E nL (pc + 3) L st u) : Vd sh K E nL pc L (.inl y :: .inl x :: st) u := by
  obtain ⟨p, l, e, R, s, m, args, below, meth, c, Q⟩ := K
  obtain ⟨g, dC, dI, cA, A⟩ := E
  exact fun H locs ls hP hD hS hl => lv_icmp_lt h.1 h.2.1 hd ht (fun q => kt q H locs ls hP hD hS hl) (fun q => kf q H locs ls hP hD hS hl)
theorem r_icmp_ge (h : Ok sh K E own cc nL rm) {x y : Int32} {off : Int} {tgt : Nat} (hd : decode cc pc = .ok (.if_icmp .ge off, 3)) (ht : (pc : Int) + off = (tgt : Int)) (kt : y ≤ x → Vd sh K E nL tgt L st u) (kf : ¬ (y ≤ x) → Vd sh K E nL (pc + 3) L st u) : Vd sh K E nL pc L (.inl y :: .inl x :: st) u := by
  obtain ⟨p, l, e, R, s, m, args, below, meth, c, Q⟩ := K
  obtain ⟨g, dC, dI, cA, A⟩ := E
  exact fun H locs ls hP hD hS hl => lv_icmp_ge h.1 h.2.1 hd ht (fun q => kt q H locs ls hP hD hS hl) (fun q => kf q H locs ls hP hD hS hl)
theorem r_icmp_gt (h : Ok sh K E own cc nL rm) {x y : Int32} {off : Int} {tgt : Nat} (hd : decode cc pc = .ok (.if_icmp .gt off, 3)) (ht : (pc : Int) + off = (tgt : Int)) (kt : y < x → Vd sh K E nL tgt L st u) (kf : ¬ (y < x) → Vd sh K E nL (pc + 3) L st u) : Vd sh K E nL pc L (.inl y :: .inl x :: st) u := by
  obtain ⟨p, l, e, R, s, m, args, below, meth, c, Q⟩ := K
  obtain ⟨g, dC, dI, cA, A⟩ := E
  exact fun H locs ls hP hD hS hl => lv_icmp_gt h.1 h.2.1 hd ht (fun q => kt q H locs ls hP hD hS hl) (fun q => kf q H locs ls hP hD hS hl)
theorem r_icmp_le (h : Ok sh K E own cc nL rm) {x y : Int32} {off : Int} {tgt : Nat} (hd : decode cc pc = .ok (.if_icmp .le off, 3)) (ht : (pc : Int) + off = (tgt : Int)) (kt : x ≤ y → Vd sh K E nL tgt L st u) (kf : ¬ (x ≤ y) → Vd sh K E nL (pc + 3) L st u) : Vd sh K E nL pc L (.inl y :: .inl x :: st) u := by
  obtain ⟨p, l, e, R, s, m, args, below, meth, c, Q⟩ := K
  obtain ⟨g, dC, dI, cA, A⟩ := E
  exact fun H locs ls hP hD hS hl => lv_icmp_le h.1 h.2.1 hd ht (fun q => kt q H locs ls hP hD hS hl) (fun q => kf q H locs ls hP hD hS hl)
end RL
