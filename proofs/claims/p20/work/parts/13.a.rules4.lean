/-! ===== Math.max and Math.min, which the machine runs by an entry ===== -/
def jmax (x y : Int32) : Int32 := if x < y then y else x
def jmin (x y : Int32) : Int32 := if y < x then y else x
theorem code_max : Cond.code Lib.Math.max.name Lib.Math.max.code 2 (some .int) ∈ gtbl := by
  have e1 : cJ9_max_7cf53 = Lib.Math.max.code := by first | rfl | decide +kernel
  have e2 : yJ9_max_7cf53 = Lib.Math.max.name := rfl
  rw [← e1, ← e2]
  exact wk_J9_max_7cf53
theorem code_min : Cond.code Lib.Math.min.name Lib.Math.min.code 2 (some .int) ∈ gtbl := by
  have e1 : cJ9_min_7cf53 = Lib.Math.min.code := by first | rfl | decide +kernel
  have e2 : yJ9_min_7cf53 = Lib.Math.min.name := rfl
  rw [← e1, ← e2]
  exact wk_J9_min_7cf53
section RL
variable {sh : Sh} {K : Kx} {E : Ex} {own : String} {cc : ByteArray} {nL pc : Nat} {rm : Room} {L : List (Option Vl)} {st : List Vl} {u : St}
theorem r_mmax (h : Ok sh K E own cc nL rm) {idx : Nat} {x y : Int32} (hl : Cond.methodLink own idx yJ9_max_7cf53 ∈ gtbl) (hR : 1 ≤ rm.frames ∧ st.length + 13 ≤ rm.locals) (hd : decode cc pc = .ok (.invokestatic idx, 3)) (kk : Vd sh K E nL (pc + 3) L (.inl (jmax x y) :: st) u) : Vd sh K E nL pc L (.inl y :: .inl x :: st) u := by
  obtain ⟨p, l, e, R, s, m, args, below, meth, c, Q⟩ := K
  obtain ⟨g, dC, dI, cA, A⟩ := E
  intro H locs ls hP hD hS hls
  obtain ⟨hx, hb, hml, hown, hts, hn, hK, hA, hRm⟩ := h
  subst hRm
  exact va_mmax (index := idx) hx hb (hml.trans hls.1.symm) hown (hts _ hl) (hts _ ws_J9_max_7cf53) (hts _ wi_J9) (hts _ code_max) hR.1 (by rw [st_sum]; exact hR.2) (Nat.zero_le _) (Nat.zero_le _) hd (kk H locs ls hP hD hS hls)
theorem r_mmin (h : Ok sh K E own cc nL rm) {idx : Nat} {x y : Int32} (hl : Cond.methodLink own idx yJ9_min_7cf53 ∈ gtbl) (hR : 1 ≤ rm.frames ∧ st.length + 13 ≤ rm.locals) (hd : decode cc pc = .ok (.invokestatic idx, 3)) (kk : Vd sh K E nL (pc + 3) L (.inl (jmin x y) :: st) u) : Vd sh K E nL pc L (.inl y :: .inl x :: st) u := by
  obtain ⟨p, l, e, R, s, m, args, below, meth, c, Q⟩ := K
  obtain ⟨g, dC, dI, cA, A⟩ := E
  intro H locs ls hP hD hS hls
  obtain ⟨hx, hb, hml, hown, hts, hn, hK, hA, hRm⟩ := h
  subst hRm
  exact va_mmin (index := idx) hx hb (hml.trans hls.1.symm) hown (hts _ hl) (hts _ ws_J9_min_7cf53) (hts _ wi_J9) (hts _ code_min) hR.1 (by rw [st_sum]; exact hR.2) (Nat.zero_le _) (Nat.zero_le _) hd (kk H locs ls hP hD hS hls)
end RL
theorem z_0 : narrow .boolean (.int 0) = .int 0 := rfl
theorem z_1 : narrow .boolean (.int 1) = .int 1 := rfl
