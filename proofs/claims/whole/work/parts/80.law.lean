def R_law : String := "LampWallLaw"
def lw_P (b : Addr) (xs : List Int32) (args : Array Value) (s : State) : Prop := args = #[.ref b] ∧ s.IntsAt b xs ∧ xs.length ≤ 3072 ∧ (Jvm.Cond.and given_1 narrow_1).before args s = true
def lw_Q (_ : Array Value) (s : State) (o : Outcome) (t : State) : Prop := o = .returned (some (.int 1)) ∧ Framed s o t [] 600000 7302250
def lw_Z (below : List Frame) (a : Array Value) (s : State) : State → Prop := fun t => ∃ o, t.status = .running ∧ Ended t below o ∧ lw_Q a s o t
/-- the law's own end, with 1 on the stack, nothing written that was there before, its room as the claim has it -/
theorem lw_ret {p : Program} {l : Launch} {e : Env} {s : State} {m : MethodId} {below : List Frame} {meth : Method} {c : Code} {b : Nat} (hx : p.tables.exec = Jvm.exec) (hb : c.code = code) (hr : meth.sig.returnType = ret) (hlocks : meth.locks = false) {pc : Nat} {H : Heap} {ls : Array Slot} (hdg : decode code pc = .ok (.ireturn, 1)) : W p l e room_1 s m #[Value.ref b] below meth c H [] 600000 7302250 (lw_Z below #[Value.ref b] s) (F0 m pc ls [.int 1]) := by
  intro T hT X
  obtain ⟨fs, hret, hrun, hended, hW, hframe⟩ := X.leave (v := some (.int 1)) (hlocks := hlocks) (fun h => by rw [hr] at h; cases h)
  have hmeth' : T.vm.method? m = some meth := X.method'
  refine ⟨T.setFrames fs, ?_, .returned (some (.int 1)), hrun, hended, rfl, ⟨_, rfl⟩, hW, hframe⟩
  jvm_step X.here [X.here.top, hx, hb, hdg, hmeth', hr, ret, narrow_b1]
  (try refine ⟨rfl, ?_⟩); (try refine ⟨rfl, ?_⟩)
  first | (intro acts; rw [hret _ acts rfl rfl rfl]) | rw [hret _ _ rfl rfl rfl]
  exact Steps.refl _
/-- what holds at the law's entry: the machine, the code, the tables' words (any of lw_tbl by 'hts w (by decide +kernel)'), the script of L ints xs at the cell b, what the Statement gives of the start (any of its parts by flat_of_before) -/
def lw_At (p : Program) (s : State) (m : MethodId) (meth : Method) (c : Code) (b L : Nat) (xs : Nat → Int32) : Prop :=
  p.tables.exec = Jvm.exec ∧ c.code = code ∧ meth.sig.returnType = ret ∧ c.maxLocals = 4 ∧ s.vm.findClass R_law = some m.cls ∧ (∀ w ∈ lw_tbl, w.before #[Value.ref b] s = true) ∧ va_X b L xs s s.heap ∧ b < s.heap.size ∧ meth.locks = false ∧ (Jvm.Cond.and given_1 narrow_1).before #[Value.ref b] s = true
def wdL (ax am : Nat → Nat) (cy : Nat → ClassId) (o : zS) (s : zS4) (n t r : zS) (w : zJ) (g : zS) (u : zJ) : va_W := [((ax 0), .inr (3, [.ref (ax 1), .ref (ax 10), .ref (ax 19), .ref (ax 28), .ref (ax 32), .int (o 5 0), .int (o 6 0)])), ((ax 1), .inl (cy 3, 4, .inr (.inr (.inr (.inr (zRw ax)))))), ((ax 2), .inr (1, [.ref (ax 3), .int (s 0 1 0), .int (s 0 2 0), .int (s 0 3 0)])), ((ax 3), .inl (cy 0, 60, .inl (s 0 0))), ((ax 4), .inr (1, [.ref (ax 5), .int (s 1 1 0), .int (s 1 2 0), .int (s 1 3 0)])), ((ax 5), .inl (cy 0, 60, .inl (s 1 0))), ((ax 6), .inr (1, [.ref (ax 7), .int (s 2 1 0), .int (s 2 2 0), .int (s 2 3 0)])), ((ax 7), .inl (cy 0, 60, .inl (s 2 0))), ((ax 8), .inr (1, [.ref (ax 9), .int (s 3 1 0), .int (s 3 2 0), .int (s 3 3 0)])), ((ax 9), .inl (cy 0, 60, .inl (s 3 0))), ((ax 10), .inr (2, [.ref (ax 11), .ref (ax 12), .ref (ax 13), .ref (ax 14), .ref (ax 15), .ref (ax 16), .ref (ax 17), .ref (ax 18), .int (n 8 0), .int (n 9 0), .int (n 10 0)])), ((ax 11), .inl (cy 0, 4, .inl (n 0))), ((ax 12), .inl (cy 0, 4, .inl (n 1))), ((ax 13), .inl (cy 0, 4, .inl (n 2))), ((ax 14), .inl (cy 1, 4, .inl (n 3))), ((ax 15), .inl (cy 0, 16, .inl (n 4))), ((ax 16), .inl (cy 0, 16, .inl (n 5))), ((ax 17), .inl (cy 0, 15, .inl (n 6))), ((ax 18), .inl (cy 0, 15, .inl (n 7))), ((ax 19), .inr (2, [.ref (ax 20), .ref (ax 21), .ref (ax 22), .ref (ax 23), .ref (ax 24), .ref (ax 25), .ref (ax 26), .ref (ax 27), .int (t 8 0), .int (t 9 0), .int (t 10 0)])), ((ax 20), .inl (cy 0, 4, .inl (t 0))), ((ax 21), .inl (cy 0, 4, .inl (t 1))), ((ax 22), .inl (cy 0, 4, .inl (t 2))), ((ax 23), .inl (cy 1, 4, .inl (t 3))), ((ax 24), .inl (cy 0, 16, .inl (t 4))), ((ax 25), .inl (cy 0, 16, .inl (t 5))), ((ax 26), .inl (cy 0, 15, .inl (t 6))), ((ax 27), .inl (cy 0, 15, .inl (t 7))), ((ax 28), .inr (0, [.ref (ax 29), .ref (ax 30), .ref (ax 31), .int (r 3 0)])), ((ax 29), .inl (cy 0, 8, .inl (r 0))), ((ax 30), .inl (cy 0, 8, .inl (r 1))), ((ax 31), .inl (cy 1, 8, .inl (r 2))), ((ax 32), .inl (cy 2, 17, .inr (.inl (w)))), ((am 0), .inr (4, [.int (g 0 0), .int (g 1 0), .int (g 2 0), .int (g 3 0), .ref (am 1), .ref (am 2), .ref (am 3), .ref (am 4), .ref (am 5), .ref (am 6), .int (g 10 0), .int (g 11 0), .int (g 12 0), .int (g 13 0), .ref (am 7), .ref (am 8), .ref (am 9), .ref (am 10), .ref (am 11), .ref (am 12), .ref (am 13), .int (g 21 0), .ref (am 14), .ref (am 15), .ref (am 16), .ref (am 17), .ref (am 18), .ref (am 19), .ref (am 20), .ref (am 21), .int (g 30 0)])), ((am 1), .inl (cy 0, 4, .inl (g 4))), ((am 2), .inl (cy 0, 4, .inl (g 5))), ((am 3), .inl (cy 0, 4, .inl (g 6))), ((am 4), .inl (cy 0, 4, .inl (g 7))), ((am 5), .inl (cy 0, 16, .inl (g 8))), ((am 6), .inl (cy 0, 16, .inl (g 9))), ((am 7), .inl (cy 0, 4, .inl (g 14))), ((am 8), .inl (cy 0, 4, .inl (g 15))), ((am 9), .inl (cy 0, 16, .inl (g 16))), ((am 10), .inl (cy 0, 15, .inl (g 17))), ((am 11), .inl (cy 0, 15, .inl (g 18))), ((am 12), .inl (cy 0, 16, .inl (g 19))), ((am 13), .inl (cy 0, 4, .inl (g 20))), ((am 14), .inl (cy 0, 8, .inl (g 22))), ((am 15), .inl (cy 0, 8, .inl (g 23))), ((am 16), .inl (cy 0, 8, .inl (g 24))), ((am 17), .inl (cy 2, 17, .inr (.inl (u)))), ((am 18), .inl (cy 0, 4, .inl (g 26))), ((am 19), .inl (cy 0, 4, .inl (g 27))), ((am 20), .inl (cy 0, 240, .inl (g 28))), ((am 21), .inl (cy 0, 60, .inl (g 29)))]
theorem wdL_0 {ax am : Nat → Nat} {cy : Nat → ClassId} {o : zS} {s : zS4} {n t r : zS} {w : zJ} {g : zS} {u : zJ} : (wdL ax am cy o s n t r w g u)[0]? = some ((ax 0), .inr (3, [.ref (ax 1), .ref (ax 10), .ref (ax 19), .ref (ax 28), .ref (ax 32), .int (o 5 0), .int (o 6 0)])) := rfl
theorem wdL_33 {ax am : Nat → Nat} {cy : Nat → ClassId} {o : zS} {s : zS4} {n t r : zS} {w : zJ} {g : zS} {u : zJ} : (wdL ax am cy o s n t r w g u)[33]? = some ((am 0), .inr (4, [.int (g 0 0), .int (g 1 0), .int (g 2 0), .int (g 3 0), .ref (am 1), .ref (am 2), .ref (am 3), .ref (am 4), .ref (am 5), .ref (am 6), .int (g 10 0), .int (g 11 0), .int (g 12 0), .int (g 13 0), .ref (am 7), .ref (am 8), .ref (am 9), .ref (am 10), .ref (am 11), .ref (am 12), .ref (am 13), .int (g 21 0), .ref (am 14), .ref (am 15), .ref (am 16), .ref (am 17), .ref (am 18), .ref (am 19), .ref (am 20), .ref (am 21), .int (g 30 0)])) := rfl
set_option maxRecDepth 100000 in
theorem fL_x {ax am : Nat → Nat} {cy : Nat → ClassId} {o : zS} {s : zS4} {n t r : zS} {w : zJ} {g : zS} {u : zJ} {o' : zS} {s' : zS4} {n' t' r' : zS} {w' : zJ} : zF (wdL ax am cy o s n t r w g u) (wdX ax cy o s n t r w) (wdL ax am cy o' s' n' t' r' w' g u) (wdX ax cy o' s' n' t' r' w') := ⟨[0, 1, 2, 3, 4, 5, 6, 7, 8, 9, 10, 11, 12, 13, 14, 15, 16, 17, 18, 19, 20, 21, 22, 23, 24, 25, 26, 27, 28, 29, 30, 31, 32], [33, 34, 35, 36, 37, 38, 39, 40, 41, 42, 43, 44, 45, 46, 47, 48, 49, 50, 51, 52, 53, 54], [33, 34, 35, 36, 37, 38, 39, 40, 41, 42, 43, 44, 45, 46, 47, 48, 49, 50, 51, 52, 53, 54].filterMap (fun i => (wdL ax am cy o s n t r w g u)[i]?), [22, 23, 24, 25, 26, 27, 28, 29, 30, 31, 32, 33, 34, 35, 36, 37, 38, 39, 40, 41, 42, 43, 44, 45, 46, 47, 48, 49, 50, 51, 52, 53, 54, 0, 1, 2, 3, 4, 5, 6, 7, 8, 9, 10, 11, 12, 13, 14, 15, 16, 17, 18, 19, 20, 21], rfl, rfl, by decide, by decide, by decide, rfl, by decide⟩
set_option maxRecDepth 100000 in
theorem fL_m {ax am : Nat → Nat} {cy : Nat → ClassId} {o : zS} {s : zS4} {n t r : zS} {w : zJ} {g : zS} {u : zJ} {g' : zS} {u' : zJ} : zF (wdL ax am cy o s n t r w g u) (wdM am cy g u) (wdL ax am cy o s n t r w g' u') (wdM am cy g' u') := ⟨[33, 34, 35, 36, 37, 38, 39, 40, 41, 42, 43, 44, 45, 46, 47, 48, 49, 50, 51, 52, 53, 54], [0, 1, 2, 3, 4, 5, 6, 7, 8, 9, 10, 11, 12, 13, 14, 15, 16, 17, 18, 19, 20, 21, 22, 23, 24, 25, 26, 27, 28, 29, 30, 31, 32], [0, 1, 2, 3, 4, 5, 6, 7, 8, 9, 10, 11, 12, 13, 14, 15, 16, 17, 18, 19, 20, 21, 22, 23, 24, 25, 26, 27, 28, 29, 30, 31, 32].filterMap (fun i => (wdL ax am cy o s n t r w g u)[i]?), [0, 1, 2, 3, 4, 5, 6, 7, 8, 9, 10, 11, 12, 13, 14, 15, 16, 17, 18, 19, 20, 21, 22, 23, 24, 25, 26, 27, 28, 29, 30, 31, 32, 33, 34, 35, 36, 37, 38, 39, 40, 41, 42, 43, 44, 45, 46, 47, 48, 49, 50, 51, 52, 53, 54], rfl, rfl, by decide, by decide, by decide, rfl, by decide⟩
/-- a place of the script -/
theorem zq_sc {I j L : Nat} (h : I + 6 ≤ L) (hj : j < 6) (hL : L ≤ 3072) {x y : Int32} (hx : x = nI I) (hy : y = nI j) : vp_in (x + y) L := by
  rw [hx, hy, nI_add]
  exact vp_in_nI (by omega) (by omega)
theorem zq_ge {I L : Nat} (hL : L ≤ 3072) (hI : I ≤ L + 6) (h : ¬ (Int32.ofNat L - 6 : Int32) < nI I) : I + 6 ≤ L := by
  rcases Nat.lt_or_ge L (I + 6) with q | q
  · exfalso
    apply h
    have e1 : (Int32.ofNat L - 6 : Int32) = nI L - nI 6 := rfl
    rw [e1, Int32.lt_iff_toInt_lt, pk_sub_toInt (by omega) (by omega), nI_toInt (by omega)]
    omega
  · exact q
set_option maxHeartbeats 4000000 in
set_option maxRecDepth 100000 in
theorem law_out {l : Launch} {p : Program} {e : Env} {s9 : State} {m9 : MethodId} {below : List Frame} {meth : Method} {c : Code} {b L : Nat} {xs : Nat → Int32} (CA : lw_At p s9 m9 meth c b L xs) {H : Heap} {locs : List Loc} {ls : Array Slot} (hS : va_S (fun q : Nat => s9.heap.size ≤ q) s9.heap H locs) : W p l e room_1 s9 m9 #[Value.ref b] below meth c H locs 55 992 (lw_Z below #[Value.ref b] s9) (F0 m9 1099 ls []) := by
  obtain ⟨hx, hb, hr, hml, hown, hts, hX, hbl, hlocks, hgv⟩ := id CA
  refine lv_iconst (v := 1) hx hb dL_law_1099 (by decide) ?_
  refine va_forget hS.2.2 ?_
  refine W.widen (k := 600000) (n := 7302250) (Nat.le_of_ble_eq_true rfl) (Nat.le_of_ble_eq_true rfl) ?_
  exact lw_ret hx hb hr hlocks dL_law_1100
set_option maxHeartbeats 4000000 in
set_option maxRecDepth 100000 in
theorem law_end {l : Launch} {p : Program} {e : Env} {s9 : State} {m9 : MethodId} {below : List Frame} {meth : Method} {c : Code} {b L : Nat} {xs : Nat → Int32} {ax am : Nat → Nat} (hL : L ≤ 3072) (CA : lw_At p s9 m9 meth c b L xs) {I : Nat} {x3 : Int32} (hk : L < I + 0) (hI : I ≤ L + 6) (ex3 : x3 = nI I) {H : Heap} {locs : List Loc} {ls : Array Slot} (hS : va_S (fun q : Nat => s9.heap.size ≤ q) s9.heap H locs) (hl : lv_has ls 4 [(0, .ref b), (1, .ref (ax 0)), (2, .ref (am 0)), (3, .int x3)]) : W p l e room_1 s9 m9 #[Value.ref b] below meth c H locs 55 992 (lw_Z below #[Value.ref b] s9) (F0 m9 18 ls []) := by
  obtain ⟨hx, hb, hr, hml, hown, hts, hX, hbl, hlocks, hgv⟩ := id CA
  have hbA : ¬ (fun q : Nat => s9.heap.size ≤ q) b := Nat.not_le.mpr hbl
  refine lv_iload_n hx hb dL_law_18 rfl (lv_at hl 3 rfl) ?_
  refine lv_aload_n hx hb dL_law_19 rfl (lv_at hl 0 rfl) ?_
  refine va_slen hx hb hX hbl hbA hS dL_law_20 ?_
  refine lv_bipush (v := 6) hx hb dL_law_21 (by decide) ?_
  refine lv_isub hx hb dL_law_23 ?_
  refine lv_icmp_gt (tgt := 1099) hx hb dL_law_24 (by decide) (fun c1 => law_out CA hS) (fun c1 => ?_)
  have h6 := zq_ge hL hI (by rw [← ex3]; exact c1)
  exact absurd h6 (by omega)
set_option maxHeartbeats 16000000 in
set_option maxRecDepth 100000 in
theorem law_loop {l : Launch} {p : Program} {e : Env} {s9 : State} {m9 : MethodId} {below : List Frame} {meth : Method} {c : Code} {b L : Nat} {xs : Nat → Int32} {D : va_G} {cy : Nat → ClassId} {ax am : Nat → Nat} (hL : L ≤ 3072) (CA : lw_At p s9 m9 meth c b L xs) (C0 : zCy p s9 m9 #[Value.ref b] c code 4 RL lw_tbl D cy (fun q : Nat => s9.heap.size ≤ q)) (hZ : ∀ w ∈ zB, w ∈ lw_tbl) : ∀ (k I : Nat) (o : zS) (s : zS4) (n t r : zS) (w : zJ) (g : zS) (u : zJ) (x3 : Int32), L < I + k → I ≤ L + 6 → x3 = nI I → zRel o s n t r g → ∀ (H : Heap) (locs : List Loc) (ls : Array Slot), va_P D vwCl (wdL ax am cy o s n t r w g u) H → va_D (fun q : Nat => s9.heap.size ≤ q) (wdL ax am cy o s n t r w g u) → va_S (fun q : Nat => s9.heap.size ≤ q) s9.heap H locs → lv_has ls 4 [(0, .ref b), (1, .ref (ax 0)), (2, .ref (am 0)), (3, .int x3)] → W p l e room_1 s9 m9 #[Value.ref b] below meth c H locs 55 992 (lw_Z below #[Value.ref b] s9) (F0 m9 18 ls []) := by
  obtain ⟨hx, hb, hr, hml, hown, hts, hX, hbl, hlocks, hgv⟩ := id CA
  have hbA : ¬ (fun q : Nat => s9.heap.size ≤ q) b := Nat.not_le.mpr hbl
  intro k
  induction k with
  | zero =>
    intro I o s n t r w g u x3 hk hI ex3 hR H locs ls hP hD hS hl
    exact law_end hL CA hk hI ex3 hS hl
  | succ k ih =>
    intro I o s n t r w g u x3 hk hI ex3 hR H locs ls hP hD hS hl
    refine lv_iload_n hx hb dL_law_18 rfl (lv_at hl 3 rfl) ?_
    refine lv_aload_n hx hb dL_law_19 rfl (lv_at hl 0 rfl) ?_
    refine va_slen hx hb hX hbl hbA hS dL_law_20 ?_
    refine lv_bipush (v := 6) hx hb dL_law_21 (by decide) ?_
    refine lv_isub hx hb dL_law_23 ?_
    refine lv_icmp_gt (tgt := 1099) hx hb dL_law_24 (by decide) (fun c1 => law_out CA hS) (fun c1 => ?_)
    have h6 := zq_ge hL hI (by rw [← ex3]; exact c1)
    refine lv_aload_n hx hb dL_law_27 rfl (lv_at hl 0 rfl) ?_
    refine lv_iload_n hx hb dL_law_28 rfl (lv_at hl 3 rfl) ?_
    refine va_sld hx hb hX hbl hbA hS (by rw [ex3]; exact vp_in_nI (by omega) (by omega)) dL_law_29 ?_
    refine lv_bipush (v := 31) hx hb dL_law_30 (by decide) ?_
    refine lv_iand hx hb dL_law_32 ?_
    refine lv_topi (fun sw esw => ?_)
    have hnext : ∀ (o' : zS) (s' : zS4) (n' t' r' : zS) (w' : zJ) (g' : zS) (u' : zJ), zRel o' s' n' t' r' g' → ∀ (H : Heap) (locs : List Loc), va_P D vwCl (wdL ax am cy o' s' n' t' r' w' g' u') H → va_D (fun q : Nat => s9.heap.size ≤ q) (wdL ax am cy o' s' n' t' r' w' g' u') → va_S (fun q : Nat => s9.heap.size ≤ q) s9.heap H locs → W p l e room_1 s9 m9 #[Value.ref b] below meth c H locs 55 992 (lw_Z below #[Value.ref b] s9) (F0 m9 1093 ls []) := by
      intro o' s' n' t' r' w' g' u' hR' H locs hP hD hS
      refine lv_iinc (v := (x3 + 6)) (lv' := [(3, .int (x3 + 6)), (0, .ref b), (1, .ref (ax 0)), (2, .ref (am 0))]) hx hb dL_law_1093 hl (k := 3) rfl rfl (by decide) rfl (fun ls hl => ?_)
      refine lv_goto (tgt := 18) hx hb dL_law_1096 (by decide) ?_
      exact ih (I + 6) o' s' n' t' r' w' g' u' (x3 + 6) (by omega) (by omega) (by rw [ex3]; exact nI_add I 6) hR' _ _ _ hP hD hS (lv_sub hl [1, 2, 3, 0] rfl)
    by_cases cs0 : sw = 0
    · refine lv_tableIn (off := 131) (tgt := 164) hx hb dL_law_33 (by rw [cs0]; decide) (by rw [cs0]; decide) (by rw [cs0]; rfl) (by decide) ?_
      obtain ⟨r0, o1, n1, t1, r1, g1, hfx, hfm, hR1⟩ := p_wall hR (xs (Int32.toNatClampNeg (x3 + 1))) (xs (Int32.toNatClampNeg (x3 + 2))) (xs (Int32.toNatClampNeg (x3 + 3))) (xs (Int32.toNatClampNeg (x3 + 4)))
      refine lv_aload_n hx hb dL_law_164 rfl (lv_at hl 1 rfl) ?_
      refine lv_aload_n hx hb dL_law_165 rfl (lv_at hl 0 rfl) ?_
      refine lv_iload_n hx hb dL_law_166 rfl (lv_at hl 3 rfl) ?_
      refine lv_iconst (v := 1) hx hb dL_law_167 (by decide) ?_
      refine lv_iadd hx hb dL_law_168 ?_
      refine va_sld hx hb hX hbl hbA hS (zq_sc (j := 1) h6 (by decide) hL ex3 rfl) dL_law_169 ?_
      refine lv_aload_n hx hb dL_law_170 rfl (lv_at hl 0 rfl) ?_
      refine lv_iload_n hx hb dL_law_171 rfl (lv_at hl 3 rfl) ?_
      refine lv_iconst (v := 2) hx hb dL_law_172 (by decide) ?_
      refine lv_iadd hx hb dL_law_173 ?_
      refine va_sld hx hb hX hbl hbA hS (zq_sc (j := 2) h6 (by decide) hL ex3 rfl) dL_law_174 ?_
      refine lv_aload_n hx hb dL_law_175 rfl (lv_at hl 0 rfl) ?_
      refine lv_iload_n hx hb dL_law_176 rfl (lv_at hl 3 rfl) ?_
      refine lv_iconst (v := 3) hx hb dL_law_177 (by decide) ?_
      refine lv_iadd hx hb dL_law_178 ?_
      refine va_sld hx hb hX hbl hbA hS (zq_sc (j := 3) h6 (by decide) hL ex3 rfl) dL_law_179 ?_
      refine lv_aload_n hx hb dL_law_180 rfl (lv_at hl 0 rfl) ?_
      refine lv_iload_n hx hb dL_law_181 rfl (lv_at hl 3 rfl) ?_
      refine lv_iconst (v := 4) hx hb dL_law_182 (by decide) ?_
      refine lv_iadd hx hb dL_law_183 ?_
      refine va_sld hx hb hX hbl hbA hS (zq_sc (j := 4) h6 (by decide) hL ex3 rfl) dL_law_184 ?_
      refine zVI (ws' := (wdL ax am cy o1 s n1 t1 r1 w g u)) (rest := []) C0 hZ fL_x (c_X3_wall (ad := ax) hfx) hP hD hS my_X3_wall kl_L_13 ⟨rfl, rfl⟩ ⟨Nat.le_of_ble_eq_true rfl, Nat.le_of_ble_eq_true rfl⟩ (q0 := 0) (ci := 3) rfl wdL_0 rfl hl.1 rfl (Nat.le_of_ble_eq_true rfl) dL_law_185 ⟨Nat.le_of_ble_eq_true rfl, Nat.le_of_ble_eq_true rfl⟩ (fun H locs hP hD hS => ?_)
      refine lv_aload_n hx hb dL_law_188 rfl (lv_at hl 2 rfl) ?_
      refine lv_aload_n hx hb dL_law_189 rfl (lv_at hl 0 rfl) ?_
      refine lv_iload_n hx hb dL_law_190 rfl (lv_at hl 3 rfl) ?_
      refine lv_iconst (v := 1) hx hb dL_law_191 (by decide) ?_
      refine lv_iadd hx hb dL_law_192 ?_
      refine va_sld hx hb hX hbl hbA hS (zq_sc (j := 1) h6 (by decide) hL ex3 rfl) dL_law_193 ?_
      refine lv_aload_n hx hb dL_law_194 rfl (lv_at hl 0 rfl) ?_
      refine lv_iload_n hx hb dL_law_195 rfl (lv_at hl 3 rfl) ?_
      refine lv_iconst (v := 2) hx hb dL_law_196 (by decide) ?_
      refine lv_iadd hx hb dL_law_197 ?_
      refine va_sld hx hb hX hbl hbA hS (zq_sc (j := 2) h6 (by decide) hL ex3 rfl) dL_law_198 ?_
      refine lv_aload_n hx hb dL_law_199 rfl (lv_at hl 0 rfl) ?_
      refine lv_iload_n hx hb dL_law_200 rfl (lv_at hl 3 rfl) ?_
      refine lv_iconst (v := 3) hx hb dL_law_201 (by decide) ?_
      refine lv_iadd hx hb dL_law_202 ?_
      refine va_sld hx hb hX hbl hbA hS (zq_sc (j := 3) h6 (by decide) hL ex3 rfl) dL_law_203 ?_
      refine lv_aload_n hx hb dL_law_204 rfl (lv_at hl 0 rfl) ?_
      refine lv_iload_n hx hb dL_law_205 rfl (lv_at hl 3 rfl) ?_
      refine lv_iconst (v := 4) hx hb dL_law_206 (by decide) ?_
      refine lv_iadd hx hb dL_law_207 ?_
      refine va_sld hx hb hX hbl hbA hS (zq_sc (j := 4) h6 (by decide) hL ex3 rfl) dL_law_208 ?_
      refine zVI (ws' := (wdL ax am cy o1 s n1 t1 r1 w g1 u)) (rest := [.int r0]) C0 hZ fL_m (c_X4_wall (ad := am) hfm) hP hD hS my_X4_wall kl_L_17 ⟨rfl, rfl⟩ ⟨Nat.le_of_ble_eq_true rfl, Nat.le_of_ble_eq_true rfl⟩ (q0 := 33) (ci := 4) rfl wdL_33 rfl hl.1 rfl (Nat.le_of_ble_eq_true rfl) dL_law_209 ⟨Nat.le_of_ble_eq_true rfl, Nat.le_of_ble_eq_true rfl⟩ (fun H locs hP hD hS => ?_)
      refine lv_icmp_eq (tgt := 1093) hx hb dL_law_212 (by decide) (fun _ => ?_) (fun c2 => absurd rfl c2)
      exact hnext o1 s n1 t1 r1 w g1 u hR1 _ _ hP hD hS
    by_cases cs1 : sw = 1
    · refine lv_tableIn (off := 184) (tgt := 217) hx hb dL_law_33 (by rw [cs1]; decide) (by rw [cs1]; decide) (by rw [cs1]; rfl) (by decide) ?_
      obtain ⟨r0, hfx, hfm, hR1⟩ := p_ofModule hR (xs (Int32.toNatClampNeg (x3 + 1))) (xs (Int32.toNatClampNeg (x3 + 2)))
      refine lv_aload_n hx hb dL_law_217 rfl (lv_at hl 1 rfl) ?_
      refine lv_aload_n hx hb dL_law_218 rfl (lv_at hl 0 rfl) ?_
      refine lv_iload_n hx hb dL_law_219 rfl (lv_at hl 3 rfl) ?_
      refine lv_iconst (v := 1) hx hb dL_law_220 (by decide) ?_
      refine lv_iadd hx hb dL_law_221 ?_
      refine va_sld hx hb hX hbl hbA hS (zq_sc (j := 1) h6 (by decide) hL ex3 rfl) dL_law_222 ?_
      refine lv_aload_n hx hb dL_law_223 rfl (lv_at hl 0 rfl) ?_
      refine lv_iload_n hx hb dL_law_224 rfl (lv_at hl 3 rfl) ?_
      refine lv_iconst (v := 2) hx hb dL_law_225 (by decide) ?_
      refine lv_iadd hx hb dL_law_226 ?_
      refine va_sld hx hb hX hbl hbA hS (zq_sc (j := 2) h6 (by decide) hL ex3 rfl) dL_law_227 ?_
      refine zVI (ws' := (wdL ax am cy o s n t r w g u)) (rest := []) C0 hZ fL_x (c_X3_ofModule (ad := ax) hfx) hP hD hS my_X3_ofModule kl_L_18 ⟨rfl, rfl⟩ ⟨Nat.le_of_ble_eq_true rfl, Nat.le_of_ble_eq_true rfl⟩ (q0 := 0) (ci := 3) rfl wdL_0 rfl hl.1 rfl (Nat.le_of_ble_eq_true rfl) dL_law_228 ⟨Nat.le_of_ble_eq_true rfl, Nat.le_of_ble_eq_true rfl⟩ (fun H locs hP hD hS => ?_)
      refine lv_aload_n hx hb dL_law_231 rfl (lv_at hl 2 rfl) ?_
      refine lv_aload_n hx hb dL_law_232 rfl (lv_at hl 0 rfl) ?_
      refine lv_iload_n hx hb dL_law_233 rfl (lv_at hl 3 rfl) ?_
      refine lv_iconst (v := 1) hx hb dL_law_234 (by decide) ?_
      refine lv_iadd hx hb dL_law_235 ?_
      refine va_sld hx hb hX hbl hbA hS (zq_sc (j := 1) h6 (by decide) hL ex3 rfl) dL_law_236 ?_
      refine lv_aload_n hx hb dL_law_237 rfl (lv_at hl 0 rfl) ?_
      refine lv_iload_n hx hb dL_law_238 rfl (lv_at hl 3 rfl) ?_
      refine lv_iconst (v := 2) hx hb dL_law_239 (by decide) ?_
      refine lv_iadd hx hb dL_law_240 ?_
      refine va_sld hx hb hX hbl hbA hS (zq_sc (j := 2) h6 (by decide) hL ex3 rfl) dL_law_241 ?_
      refine zVI (ws' := (wdL ax am cy o s n t r w g u)) (rest := [.int r0]) C0 hZ fL_m (c_X4_ofModule (ad := am) hfm) hP hD hS my_X4_ofModule kl_L_22 ⟨rfl, rfl⟩ ⟨Nat.le_of_ble_eq_true rfl, Nat.le_of_ble_eq_true rfl⟩ (q0 := 33) (ci := 4) rfl wdL_33 rfl hl.1 rfl (Nat.le_of_ble_eq_true rfl) dL_law_242 ⟨Nat.le_of_ble_eq_true rfl, Nat.le_of_ble_eq_true rfl⟩ (fun H locs hP hD hS => ?_)
      refine lv_icmp_eq (tgt := 1093) hx hb dL_law_245 (by decide) (fun _ => ?_) (fun c2 => absurd rfl c2)
      exact hnext o s n t r w g u hR1 _ _ hP hD hS
    by_cases cs2 : sw = 2
    · refine lv_tableIn (off := 217) (tgt := 250) hx hb dL_law_33 (by rw [cs2]; decide) (by rw [cs2]; decide) (by rw [cs2]; rfl) (by decide) ?_
      obtain ⟨r0, g1, hfx, hfm, hR1⟩ := p_ofLamp hR (xs (Int32.toNatClampNeg (x3 + 1))) (xs (Int32.toNatClampNeg (x3 + 2)))
      refine lv_aload_n hx hb dL_law_250 rfl (lv_at hl 1 rfl) ?_
      refine lv_aload_n hx hb dL_law_251 rfl (lv_at hl 0 rfl) ?_
      refine lv_iload_n hx hb dL_law_252 rfl (lv_at hl 3 rfl) ?_
      refine lv_iconst (v := 1) hx hb dL_law_253 (by decide) ?_
      refine lv_iadd hx hb dL_law_254 ?_
      refine va_sld hx hb hX hbl hbA hS (zq_sc (j := 1) h6 (by decide) hL ex3 rfl) dL_law_255 ?_
      refine lv_aload_n hx hb dL_law_256 rfl (lv_at hl 0 rfl) ?_
      refine lv_iload_n hx hb dL_law_257 rfl (lv_at hl 3 rfl) ?_
      refine lv_iconst (v := 2) hx hb dL_law_258 (by decide) ?_
      refine lv_iadd hx hb dL_law_259 ?_
      refine va_sld hx hb hX hbl hbA hS (zq_sc (j := 2) h6 (by decide) hL ex3 rfl) dL_law_260 ?_
      refine zVI (ws' := (wdL ax am cy o s n t r w g u)) (rest := []) C0 hZ fL_x (c_X3_ofLamp (ad := ax) hfx) hP hD hS my_X3_ofLamp kl_L_23 ⟨rfl, rfl⟩ ⟨Nat.le_of_ble_eq_true rfl, Nat.le_of_ble_eq_true rfl⟩ (q0 := 0) (ci := 3) rfl wdL_0 rfl hl.1 rfl (Nat.le_of_ble_eq_true rfl) dL_law_261 ⟨Nat.le_of_ble_eq_true rfl, Nat.le_of_ble_eq_true rfl⟩ (fun H locs hP hD hS => ?_)
      refine lv_aload_n hx hb dL_law_264 rfl (lv_at hl 2 rfl) ?_
      refine lv_aload_n hx hb dL_law_265 rfl (lv_at hl 0 rfl) ?_
      refine lv_iload_n hx hb dL_law_266 rfl (lv_at hl 3 rfl) ?_
      refine lv_iconst (v := 1) hx hb dL_law_267 (by decide) ?_
      refine lv_iadd hx hb dL_law_268 ?_
      refine va_sld hx hb hX hbl hbA hS (zq_sc (j := 1) h6 (by decide) hL ex3 rfl) dL_law_269 ?_
      refine lv_aload_n hx hb dL_law_270 rfl (lv_at hl 0 rfl) ?_
      refine lv_iload_n hx hb dL_law_271 rfl (lv_at hl 3 rfl) ?_
      refine lv_iconst (v := 2) hx hb dL_law_272 (by decide) ?_
      refine lv_iadd hx hb dL_law_273 ?_
      refine va_sld hx hb hX hbl hbA hS (zq_sc (j := 2) h6 (by decide) hL ex3 rfl) dL_law_274 ?_
      refine zVI (ws' := (wdL ax am cy o s n t r w g1 u)) (rest := [.int r0]) C0 hZ fL_m (c_X4_ofLamp (ad := am) hfm) hP hD hS my_X4_ofLamp kl_L_26 ⟨rfl, rfl⟩ ⟨Nat.le_of_ble_eq_true rfl, Nat.le_of_ble_eq_true rfl⟩ (q0 := 33) (ci := 4) rfl wdL_33 rfl hl.1 rfl (Nat.le_of_ble_eq_true rfl) dL_law_275 ⟨Nat.le_of_ble_eq_true rfl, Nat.le_of_ble_eq_true rfl⟩ (fun H locs hP hD hS => ?_)
      refine lv_icmp_eq (tgt := 1093) hx hb dL_law_278 (by decide) (fun _ => ?_) (fun c2 => absurd rfl c2)
      exact hnext o s n t r w g1 u hR1 _ _ hP hD hS
    by_cases cs3 : sw = 3
    · refine lv_tableIn (off := 250) (tgt := 283) hx hb dL_law_33 (by rw [cs3]; decide) (by rw [cs3]; decide) (by rw [cs3]; rfl) (by decide) ?_
      obtain ⟨r0, n1, g1, hfx, hfm, hR1⟩ := p_level hR (xs (Int32.toNatClampNeg (x3 + 1))) (xs (Int32.toNatClampNeg (x3 + 2)))
      refine lv_aload_n hx hb dL_law_283 rfl (lv_at hl 1 rfl) ?_
      refine lv_aload_n hx hb dL_law_284 rfl (lv_at hl 0 rfl) ?_
      refine lv_iload_n hx hb dL_law_285 rfl (lv_at hl 3 rfl) ?_
      refine lv_iconst (v := 1) hx hb dL_law_286 (by decide) ?_
      refine lv_iadd hx hb dL_law_287 ?_
      refine va_sld hx hb hX hbl hbA hS (zq_sc (j := 1) h6 (by decide) hL ex3 rfl) dL_law_288 ?_
      refine lv_aload_n hx hb dL_law_289 rfl (lv_at hl 0 rfl) ?_
      refine lv_iload_n hx hb dL_law_290 rfl (lv_at hl 3 rfl) ?_
      refine lv_iconst (v := 2) hx hb dL_law_291 (by decide) ?_
      refine lv_iadd hx hb dL_law_292 ?_
      refine va_sld hx hb hX hbl hbA hS (zq_sc (j := 2) h6 (by decide) hL ex3 rfl) dL_law_293 ?_
      refine zVI (ws' := (wdL ax am cy o s n1 t r w g u)) (rest := []) C0 hZ fL_x (c_X3_level (ad := ax) hfx) hP hD hS my_X3_level kl_L_27 ⟨rfl, rfl⟩ ⟨Nat.le_of_ble_eq_true rfl, Nat.le_of_ble_eq_true rfl⟩ (q0 := 0) (ci := 3) rfl wdL_0 rfl hl.1 rfl (Nat.le_of_ble_eq_true rfl) dL_law_294 ⟨Nat.le_of_ble_eq_true rfl, Nat.le_of_ble_eq_true rfl⟩ (fun H locs hP hD hS => ?_)
      refine lv_aload_n hx hb dL_law_297 rfl (lv_at hl 2 rfl) ?_
      refine lv_aload_n hx hb dL_law_298 rfl (lv_at hl 0 rfl) ?_
      refine lv_iload_n hx hb dL_law_299 rfl (lv_at hl 3 rfl) ?_
      refine lv_iconst (v := 1) hx hb dL_law_300 (by decide) ?_
      refine lv_iadd hx hb dL_law_301 ?_
      refine va_sld hx hb hX hbl hbA hS (zq_sc (j := 1) h6 (by decide) hL ex3 rfl) dL_law_302 ?_
      refine lv_aload_n hx hb dL_law_303 rfl (lv_at hl 0 rfl) ?_
      refine lv_iload_n hx hb dL_law_304 rfl (lv_at hl 3 rfl) ?_
      refine lv_iconst (v := 2) hx hb dL_law_305 (by decide) ?_
      refine lv_iadd hx hb dL_law_306 ?_
      refine va_sld hx hb hX hbl hbA hS (zq_sc (j := 2) h6 (by decide) hL ex3 rfl) dL_law_307 ?_
      refine zVI (ws' := (wdL ax am cy o s n1 t r w g1 u)) (rest := [.int r0]) C0 hZ fL_m (c_X4_level (ad := am) hfm) hP hD hS my_X4_level kl_L_30 ⟨rfl, rfl⟩ ⟨Nat.le_of_ble_eq_true rfl, Nat.le_of_ble_eq_true rfl⟩ (q0 := 33) (ci := 4) rfl wdL_33 rfl hl.1 rfl (Nat.le_of_ble_eq_true rfl) dL_law_308 ⟨Nat.le_of_ble_eq_true rfl, Nat.le_of_ble_eq_true rfl⟩ (fun H locs hP hD hS => ?_)
      refine lv_icmp_eq (tgt := 1093) hx hb dL_law_311 (by decide) (fun _ => ?_) (fun c2 => absurd rfl c2)
      exact hnext o s n1 t r w g1 u hR1 _ _ hP hD hS
    by_cases cs4 : sw = 4
    · refine lv_tableIn (off := 283) (tgt := 316) hx hb dL_law_33 (by rw [cs4]; decide) (by rw [cs4]; decide) (by rw [cs4]; rfl) (by decide) ?_
      obtain ⟨r0, n1, g1, hfx, hfm, hR1⟩ := p_die hR (xs (Int32.toNatClampNeg (x3 + 1)))
      refine lv_aload_n hx hb dL_law_316 rfl (lv_at hl 1 rfl) ?_
      refine lv_aload_n hx hb dL_law_317 rfl (lv_at hl 0 rfl) ?_
      refine lv_iload_n hx hb dL_law_318 rfl (lv_at hl 3 rfl) ?_
      refine lv_iconst (v := 1) hx hb dL_law_319 (by decide) ?_
      refine lv_iadd hx hb dL_law_320 ?_
      refine va_sld hx hb hX hbl hbA hS (zq_sc (j := 1) h6 (by decide) hL ex3 rfl) dL_law_321 ?_
      refine zVI (ws' := (wdL ax am cy o s n1 t r w g u)) (rest := []) C0 hZ fL_x (c_X3_die (ad := ax) hfx) hP hD hS my_X3_die kl_L_31 ⟨rfl, rfl⟩ ⟨Nat.le_of_ble_eq_true rfl, Nat.le_of_ble_eq_true rfl⟩ (q0 := 0) (ci := 3) rfl wdL_0 rfl hl.1 rfl (Nat.le_of_ble_eq_true rfl) dL_law_322 ⟨Nat.le_of_ble_eq_true rfl, Nat.le_of_ble_eq_true rfl⟩ (fun H locs hP hD hS => ?_)
      refine lv_aload_n hx hb dL_law_325 rfl (lv_at hl 2 rfl) ?_
      refine lv_aload_n hx hb dL_law_326 rfl (lv_at hl 0 rfl) ?_
      refine lv_iload_n hx hb dL_law_327 rfl (lv_at hl 3 rfl) ?_
      refine lv_iconst (v := 1) hx hb dL_law_328 (by decide) ?_
      refine lv_iadd hx hb dL_law_329 ?_
      refine va_sld hx hb hX hbl hbA hS (zq_sc (j := 1) h6 (by decide) hL ex3 rfl) dL_law_330 ?_
      refine zVI (ws' := (wdL ax am cy o s n1 t r w g1 u)) (rest := [.int r0]) C0 hZ fL_m (c_X4_die (ad := am) hfm) hP hD hS my_X4_die kl_L_35 ⟨rfl, rfl⟩ ⟨Nat.le_of_ble_eq_true rfl, Nat.le_of_ble_eq_true rfl⟩ (q0 := 33) (ci := 4) rfl wdL_33 rfl hl.1 rfl (Nat.le_of_ble_eq_true rfl) dL_law_331 ⟨Nat.le_of_ble_eq_true rfl, Nat.le_of_ble_eq_true rfl⟩ (fun H locs hP hD hS => ?_)
      refine lv_icmp_eq (tgt := 1093) hx hb dL_law_334 (by decide) (fun _ => ?_) (fun c2 => absurd rfl c2)
      exact hnext o s n1 t r w g1 u hR1 _ _ hP hD hS
    by_cases cs5 : sw = 5
    · refine lv_tableIn (off := 306) (tgt := 339) hx hb dL_law_33 (by rw [cs5]; decide) (by rw [cs5]; decide) (by rw [cs5]; rfl) (by decide) ?_
      obtain ⟨r0, n1, g1, hfx, hfm, hR1⟩ := p_cut hR (xs (Int32.toNatClampNeg (x3 + 1)))
      refine lv_aload_n hx hb dL_law_339 rfl (lv_at hl 1 rfl) ?_
      refine lv_aload_n hx hb dL_law_340 rfl (lv_at hl 0 rfl) ?_
      refine lv_iload_n hx hb dL_law_341 rfl (lv_at hl 3 rfl) ?_
      refine lv_iconst (v := 1) hx hb dL_law_342 (by decide) ?_
      refine lv_iadd hx hb dL_law_343 ?_
      refine va_sld hx hb hX hbl hbA hS (zq_sc (j := 1) h6 (by decide) hL ex3 rfl) dL_law_344 ?_
      refine zVI (ws' := (wdL ax am cy o s n1 t r w g u)) (rest := []) C0 hZ fL_x (c_X3_cut (ad := ax) hfx) hP hD hS my_X3_cut kl_L_36 ⟨rfl, rfl⟩ ⟨Nat.le_of_ble_eq_true rfl, Nat.le_of_ble_eq_true rfl⟩ (q0 := 0) (ci := 3) rfl wdL_0 rfl hl.1 rfl (Nat.le_of_ble_eq_true rfl) dL_law_345 ⟨Nat.le_of_ble_eq_true rfl, Nat.le_of_ble_eq_true rfl⟩ (fun H locs hP hD hS => ?_)
      refine lv_aload_n hx hb dL_law_348 rfl (lv_at hl 2 rfl) ?_
      refine lv_aload_n hx hb dL_law_349 rfl (lv_at hl 0 rfl) ?_
      refine lv_iload_n hx hb dL_law_350 rfl (lv_at hl 3 rfl) ?_
      refine lv_iconst (v := 1) hx hb dL_law_351 (by decide) ?_
      refine lv_iadd hx hb dL_law_352 ?_
      refine va_sld hx hb hX hbl hbA hS (zq_sc (j := 1) h6 (by decide) hL ex3 rfl) dL_law_353 ?_
      refine zVI (ws' := (wdL ax am cy o s n1 t r w g1 u)) (rest := [.int r0]) C0 hZ fL_m (c_X4_cut (ad := am) hfm) hP hD hS my_X4_cut kl_L_39 ⟨rfl, rfl⟩ ⟨Nat.le_of_ble_eq_true rfl, Nat.le_of_ble_eq_true rfl⟩ (q0 := 33) (ci := 4) rfl wdL_33 rfl hl.1 rfl (Nat.le_of_ble_eq_true rfl) dL_law_354 ⟨Nat.le_of_ble_eq_true rfl, Nat.le_of_ble_eq_true rfl⟩ (fun H locs hP hD hS => ?_)
      refine lv_icmp_eq (tgt := 1093) hx hb dL_law_357 (by decide) (fun _ => ?_) (fun c2 => absurd rfl c2)
      exact hnext o s n1 t r w g1 u hR1 _ _ hP hD hS
    by_cases cs6 : sw = 6
    · refine lv_tableIn (off := 329) (tgt := 362) hx hb dL_law_33 (by rw [cs6]; decide) (by rw [cs6]; decide) (by rw [cs6]; rfl) (by decide) ?_
      obtain ⟨r0, g1, hfx, hfm, hR1⟩ := p_ofUnit hR (xs (Int32.toNatClampNeg (x3 + 1))) (xs (Int32.toNatClampNeg (x3 + 2)))
      refine lv_aload_n hx hb dL_law_362 rfl (lv_at hl 1 rfl) ?_
      refine lv_aload_n hx hb dL_law_363 rfl (lv_at hl 0 rfl) ?_
      refine lv_iload_n hx hb dL_law_364 rfl (lv_at hl 3 rfl) ?_
      refine lv_iconst (v := 1) hx hb dL_law_365 (by decide) ?_
      refine lv_iadd hx hb dL_law_366 ?_
      refine va_sld hx hb hX hbl hbA hS (zq_sc (j := 1) h6 (by decide) hL ex3 rfl) dL_law_367 ?_
      refine lv_aload_n hx hb dL_law_368 rfl (lv_at hl 0 rfl) ?_
      refine lv_iload_n hx hb dL_law_369 rfl (lv_at hl 3 rfl) ?_
      refine lv_iconst (v := 2) hx hb dL_law_370 (by decide) ?_
      refine lv_iadd hx hb dL_law_371 ?_
      refine va_sld hx hb hX hbl hbA hS (zq_sc (j := 2) h6 (by decide) hL ex3 rfl) dL_law_372 ?_
      refine zVI (ws' := (wdL ax am cy o s n t r w g u)) (rest := []) C0 hZ fL_x (c_X3_ofUnit (ad := ax) hfx) hP hD hS my_X3_ofUnit kl_L_40 ⟨rfl, rfl⟩ ⟨Nat.le_of_ble_eq_true rfl, Nat.le_of_ble_eq_true rfl⟩ (q0 := 0) (ci := 3) rfl wdL_0 rfl hl.1 rfl (Nat.le_of_ble_eq_true rfl) dL_law_373 ⟨Nat.le_of_ble_eq_true rfl, Nat.le_of_ble_eq_true rfl⟩ (fun H locs hP hD hS => ?_)
      refine lv_aload_n hx hb dL_law_376 rfl (lv_at hl 2 rfl) ?_
      refine lv_aload_n hx hb dL_law_377 rfl (lv_at hl 0 rfl) ?_
      refine lv_iload_n hx hb dL_law_378 rfl (lv_at hl 3 rfl) ?_
      refine lv_iconst (v := 1) hx hb dL_law_379 (by decide) ?_
      refine lv_iadd hx hb dL_law_380 ?_
      refine va_sld hx hb hX hbl hbA hS (zq_sc (j := 1) h6 (by decide) hL ex3 rfl) dL_law_381 ?_
      refine lv_aload_n hx hb dL_law_382 rfl (lv_at hl 0 rfl) ?_
      refine lv_iload_n hx hb dL_law_383 rfl (lv_at hl 3 rfl) ?_
      refine lv_iconst (v := 2) hx hb dL_law_384 (by decide) ?_
      refine lv_iadd hx hb dL_law_385 ?_
      refine va_sld hx hb hX hbl hbA hS (zq_sc (j := 2) h6 (by decide) hL ex3 rfl) dL_law_386 ?_
      refine zVI (ws' := (wdL ax am cy o s n t r w g1 u)) (rest := [.int r0]) C0 hZ fL_m (c_X4_ofUnit (ad := am) hfm) hP hD hS my_X4_ofUnit kl_L_43 ⟨rfl, rfl⟩ ⟨Nat.le_of_ble_eq_true rfl, Nat.le_of_ble_eq_true rfl⟩ (q0 := 33) (ci := 4) rfl wdL_33 rfl hl.1 rfl (Nat.le_of_ble_eq_true rfl) dL_law_387 ⟨Nat.le_of_ble_eq_true rfl, Nat.le_of_ble_eq_true rfl⟩ (fun H locs hP hD hS => ?_)
      refine lv_icmp_eq (tgt := 1093) hx hb dL_law_390 (by decide) (fun _ => ?_) (fun c2 => absurd rfl c2)
      exact hnext o s n t r w g1 u hR1 _ _ hP hD hS
    by_cases cs7 : sw = 7
    · refine lv_tableIn (off := 362) (tgt := 395) hx hb dL_law_33 (by rw [cs7]; decide) (by rw [cs7]; decide) (by rw [cs7]; rfl) (by decide) ?_
      obtain ⟨r0, hfx, hfm, hR1⟩ := p_slices hR (xs (Int32.toNatClampNeg (x3 + 1)))
      refine lv_aload_n hx hb dL_law_395 rfl (lv_at hl 1 rfl) ?_
      refine lv_aload_n hx hb dL_law_396 rfl (lv_at hl 0 rfl) ?_
      refine lv_iload_n hx hb dL_law_397 rfl (lv_at hl 3 rfl) ?_
      refine lv_iconst (v := 1) hx hb dL_law_398 (by decide) ?_
      refine lv_iadd hx hb dL_law_399 ?_
      refine va_sld hx hb hX hbl hbA hS (zq_sc (j := 1) h6 (by decide) hL ex3 rfl) dL_law_400 ?_
      refine zVI (ws' := (wdL ax am cy o s n t r w g u)) (rest := []) C0 hZ fL_x (c_X3_slices (ad := ax) hfx) hP hD hS my_X3_slices kl_L_44 ⟨rfl, rfl⟩ ⟨Nat.le_of_ble_eq_true rfl, Nat.le_of_ble_eq_true rfl⟩ (q0 := 0) (ci := 3) rfl wdL_0 rfl hl.1 rfl (Nat.le_of_ble_eq_true rfl) dL_law_401 ⟨Nat.le_of_ble_eq_true rfl, Nat.le_of_ble_eq_true rfl⟩ (fun H locs hP hD hS => ?_)
      refine lv_aload_n hx hb dL_law_404 rfl (lv_at hl 2 rfl) ?_
      refine lv_aload_n hx hb dL_law_405 rfl (lv_at hl 0 rfl) ?_
      refine lv_iload_n hx hb dL_law_406 rfl (lv_at hl 3 rfl) ?_
      refine lv_iconst (v := 1) hx hb dL_law_407 (by decide) ?_
      refine lv_iadd hx hb dL_law_408 ?_
      refine va_sld hx hb hX hbl hbA hS (zq_sc (j := 1) h6 (by decide) hL ex3 rfl) dL_law_409 ?_
      refine zVI (ws' := (wdL ax am cy o s n t r w g u)) (rest := [.int r0]) C0 hZ fL_m (c_X4_slices (ad := am) hfm) hP hD hS my_X4_slices kl_L_47 ⟨rfl, rfl⟩ ⟨Nat.le_of_ble_eq_true rfl, Nat.le_of_ble_eq_true rfl⟩ (q0 := 33) (ci := 4) rfl wdL_33 rfl hl.1 rfl (Nat.le_of_ble_eq_true rfl) dL_law_410 ⟨Nat.le_of_ble_eq_true rfl, Nat.le_of_ble_eq_true rfl⟩ (fun H locs hP hD hS => ?_)
      refine lv_icmp_eq (tgt := 1093) hx hb dL_law_413 (by decide) (fun _ => ?_) (fun c2 => absurd rfl c2)
      exact hnext o s n t r w g u hR1 _ _ hP hD hS
    by_cases cs8 : sw = 8
    · refine lv_tableIn (off := 385) (tgt := 418) hx hb dL_law_33 (by rw [cs8]; decide) (by rw [cs8]; decide) (by rw [cs8]; rfl) (by decide) ?_
      obtain ⟨r0, hfx, hfm, hR1⟩ := p_bears hR (xs (Int32.toNatClampNeg (x3 + 1)))
      refine lv_aload_n hx hb dL_law_418 rfl (lv_at hl 1 rfl) ?_
      refine lv_aload_n hx hb dL_law_419 rfl (lv_at hl 0 rfl) ?_
      refine lv_iload_n hx hb dL_law_420 rfl (lv_at hl 3 rfl) ?_
      refine lv_iconst (v := 1) hx hb dL_law_421 (by decide) ?_
      refine lv_iadd hx hb dL_law_422 ?_
      refine va_sld hx hb hX hbl hbA hS (zq_sc (j := 1) h6 (by decide) hL ex3 rfl) dL_law_423 ?_
      refine zVI (ws' := (wdL ax am cy o s n t r w g u)) (rest := []) C0 hZ fL_x (c_X3_bears (ad := ax) hfx) hP hD hS my_X3_bears kl_L_48 ⟨rfl, rfl⟩ ⟨Nat.le_of_ble_eq_true rfl, Nat.le_of_ble_eq_true rfl⟩ (q0 := 0) (ci := 3) rfl wdL_0 rfl hl.1 rfl (Nat.le_of_ble_eq_true rfl) dL_law_424 ⟨Nat.le_of_ble_eq_true rfl, Nat.le_of_ble_eq_true rfl⟩ (fun H locs hP hD hS => ?_)
      refine lv_aload_n hx hb dL_law_427 rfl (lv_at hl 2 rfl) ?_
      refine lv_aload_n hx hb dL_law_428 rfl (lv_at hl 0 rfl) ?_
      refine lv_iload_n hx hb dL_law_429 rfl (lv_at hl 3 rfl) ?_
      refine lv_iconst (v := 1) hx hb dL_law_430 (by decide) ?_
      refine lv_iadd hx hb dL_law_431 ?_
      refine va_sld hx hb hX hbl hbA hS (zq_sc (j := 1) h6 (by decide) hL ex3 rfl) dL_law_432 ?_
      refine zVI (ws' := (wdL ax am cy o s n t r w g u)) (rest := [.int r0]) C0 hZ fL_m (c_X4_bears (ad := am) hfm) hP hD hS my_X4_bears kl_L_51 ⟨rfl, rfl⟩ ⟨Nat.le_of_ble_eq_true rfl, Nat.le_of_ble_eq_true rfl⟩ (q0 := 33) (ci := 4) rfl wdL_33 rfl hl.1 rfl (Nat.le_of_ble_eq_true rfl) dL_law_433 ⟨Nat.le_of_ble_eq_true rfl, Nat.le_of_ble_eq_true rfl⟩ (fun H locs hP hD hS => ?_)
      refine lv_icmp_eq (tgt := 1093) hx hb dL_law_436 (by decide) (fun _ => ?_) (fun c2 => absurd rfl c2)
      exact hnext o s n t r w g u hR1 _ _ hP hD hS
    by_cases cs9 : sw = 9
    · refine lv_tableIn (off := 408) (tgt := 441) hx hb dL_law_33 (by rw [cs9]; decide) (by rw [cs9]; decide) (by rw [cs9]; rfl) (by decide) ?_
      obtain ⟨r0, t1, g1, hfx, hfm, hR1⟩ := p_steadiest hR (xs (Int32.toNatClampNeg (x3 + 1)))
      refine lv_aload_n hx hb dL_law_441 rfl (lv_at hl 1 rfl) ?_
      refine lv_aload_n hx hb dL_law_442 rfl (lv_at hl 0 rfl) ?_
      refine lv_iload_n hx hb dL_law_443 rfl (lv_at hl 3 rfl) ?_
      refine lv_iconst (v := 1) hx hb dL_law_444 (by decide) ?_
      refine lv_iadd hx hb dL_law_445 ?_
      refine va_sld hx hb hX hbl hbA hS (zq_sc (j := 1) h6 (by decide) hL ex3 rfl) dL_law_446 ?_
      refine zVI (ws' := (wdL ax am cy o s n t1 r w g u)) (rest := []) C0 hZ fL_x (c_X3_steadiest (ad := ax) hfx) hP hD hS my_X3_steadiest kl_L_52 ⟨rfl, rfl⟩ ⟨Nat.le_of_ble_eq_true rfl, Nat.le_of_ble_eq_true rfl⟩ (q0 := 0) (ci := 3) rfl wdL_0 rfl hl.1 rfl (Nat.le_of_ble_eq_true rfl) dL_law_447 ⟨Nat.le_of_ble_eq_true rfl, Nat.le_of_ble_eq_true rfl⟩ (fun H locs hP hD hS => ?_)
      refine lv_aload_n hx hb dL_law_450 rfl (lv_at hl 2 rfl) ?_
      refine lv_aload_n hx hb dL_law_451 rfl (lv_at hl 0 rfl) ?_
      refine lv_iload_n hx hb dL_law_452 rfl (lv_at hl 3 rfl) ?_
      refine lv_iconst (v := 1) hx hb dL_law_453 (by decide) ?_
      refine lv_iadd hx hb dL_law_454 ?_
      refine va_sld hx hb hX hbl hbA hS (zq_sc (j := 1) h6 (by decide) hL ex3 rfl) dL_law_455 ?_
      refine zVI (ws' := (wdL ax am cy o s n t1 r w g1 u)) (rest := [.int r0]) C0 hZ fL_m (c_X4_steadiest (ad := am) hfm) hP hD hS my_X4_steadiest kl_L_55 ⟨rfl, rfl⟩ ⟨Nat.le_of_ble_eq_true rfl, Nat.le_of_ble_eq_true rfl⟩ (q0 := 33) (ci := 4) rfl wdL_33 rfl hl.1 rfl (Nat.le_of_ble_eq_true rfl) dL_law_456 ⟨Nat.le_of_ble_eq_true rfl, Nat.le_of_ble_eq_true rfl⟩ (fun H locs hP hD hS => ?_)
      refine lv_icmp_eq (tgt := 1093) hx hb dL_law_459 (by decide) (fun _ => ?_) (fun c2 => absurd rfl c2)
      exact hnext o s n t1 r w g1 u hR1 _ _ hP hD hS
    by_cases cs10 : sw = 10
    · refine lv_tableIn (off := 431) (tgt := 464) hx hb dL_law_33 (by rw [cs10]; decide) (by rw [cs10]; decide) (by rw [cs10]; rfl) (by decide) ?_
      obtain ⟨r0, o1, n1, g1, hfx, hfm, hR1⟩ := p_send hR (xs (Int32.toNatClampNeg (x3 + 1))) (xs (Int32.toNatClampNeg (x3 + 2))) (xs (Int32.toNatClampNeg (x3 + 3))) (xs (Int32.toNatClampNeg (x3 + 4)))
      refine lv_aload_n hx hb dL_law_464 rfl (lv_at hl 1 rfl) ?_
      refine lv_aload_n hx hb dL_law_465 rfl (lv_at hl 0 rfl) ?_
      refine lv_iload_n hx hb dL_law_466 rfl (lv_at hl 3 rfl) ?_
      refine lv_iconst (v := 1) hx hb dL_law_467 (by decide) ?_
      refine lv_iadd hx hb dL_law_468 ?_
      refine va_sld hx hb hX hbl hbA hS (zq_sc (j := 1) h6 (by decide) hL ex3 rfl) dL_law_469 ?_
      refine lv_aload_n hx hb dL_law_470 rfl (lv_at hl 0 rfl) ?_
      refine lv_iload_n hx hb dL_law_471 rfl (lv_at hl 3 rfl) ?_
      refine lv_iconst (v := 2) hx hb dL_law_472 (by decide) ?_
      refine lv_iadd hx hb dL_law_473 ?_
      refine va_sld hx hb hX hbl hbA hS (zq_sc (j := 2) h6 (by decide) hL ex3 rfl) dL_law_474 ?_
      refine lv_aload_n hx hb dL_law_475 rfl (lv_at hl 0 rfl) ?_
      refine lv_iload_n hx hb dL_law_476 rfl (lv_at hl 3 rfl) ?_
      refine lv_iconst (v := 3) hx hb dL_law_477 (by decide) ?_
      refine lv_iadd hx hb dL_law_478 ?_
      refine va_sld hx hb hX hbl hbA hS (zq_sc (j := 3) h6 (by decide) hL ex3 rfl) dL_law_479 ?_
      refine lv_aload_n hx hb dL_law_480 rfl (lv_at hl 0 rfl) ?_
      refine lv_iload_n hx hb dL_law_481 rfl (lv_at hl 3 rfl) ?_
      refine lv_iconst (v := 4) hx hb dL_law_482 (by decide) ?_
      refine lv_iadd hx hb dL_law_483 ?_
      refine va_sld hx hb hX hbl hbA hS (zq_sc (j := 4) h6 (by decide) hL ex3 rfl) dL_law_484 ?_
      refine zVI (ws' := (wdL ax am cy o1 s n1 t r w g u)) (rest := []) C0 hZ fL_x (c_X3_send (ad := ax) hfx) hP hD hS my_X3_send kl_L_56 ⟨rfl, rfl⟩ ⟨Nat.le_of_ble_eq_true rfl, Nat.le_of_ble_eq_true rfl⟩ (q0 := 0) (ci := 3) rfl wdL_0 rfl hl.1 rfl (Nat.le_of_ble_eq_true rfl) dL_law_485 ⟨Nat.le_of_ble_eq_true rfl, Nat.le_of_ble_eq_true rfl⟩ (fun H locs hP hD hS => ?_)
      refine lv_aload_n hx hb dL_law_488 rfl (lv_at hl 2 rfl) ?_
      refine lv_aload_n hx hb dL_law_489 rfl (lv_at hl 0 rfl) ?_
      refine lv_iload_n hx hb dL_law_490 rfl (lv_at hl 3 rfl) ?_
      refine lv_iconst (v := 1) hx hb dL_law_491 (by decide) ?_
      refine lv_iadd hx hb dL_law_492 ?_
      refine va_sld hx hb hX hbl hbA hS (zq_sc (j := 1) h6 (by decide) hL ex3 rfl) dL_law_493 ?_
      refine lv_aload_n hx hb dL_law_494 rfl (lv_at hl 0 rfl) ?_
      refine lv_iload_n hx hb dL_law_495 rfl (lv_at hl 3 rfl) ?_
      refine lv_iconst (v := 2) hx hb dL_law_496 (by decide) ?_
      refine lv_iadd hx hb dL_law_497 ?_
      refine va_sld hx hb hX hbl hbA hS (zq_sc (j := 2) h6 (by decide) hL ex3 rfl) dL_law_498 ?_
      refine lv_aload_n hx hb dL_law_499 rfl (lv_at hl 0 rfl) ?_
      refine lv_iload_n hx hb dL_law_500 rfl (lv_at hl 3 rfl) ?_
      refine lv_iconst (v := 3) hx hb dL_law_501 (by decide) ?_
      refine lv_iadd hx hb dL_law_502 ?_
      refine va_sld hx hb hX hbl hbA hS (zq_sc (j := 3) h6 (by decide) hL ex3 rfl) dL_law_503 ?_
      refine lv_aload_n hx hb dL_law_504 rfl (lv_at hl 0 rfl) ?_
      refine lv_iload_n hx hb dL_law_505 rfl (lv_at hl 3 rfl) ?_
      refine lv_iconst (v := 4) hx hb dL_law_506 (by decide) ?_
      refine lv_iadd hx hb dL_law_507 ?_
      refine va_sld hx hb hX hbl hbA hS (zq_sc (j := 4) h6 (by decide) hL ex3 rfl) dL_law_508 ?_
      refine zVI (ws' := (wdL ax am cy o1 s n1 t r w g1 u)) (rest := [.int r0]) C0 hZ fL_m (c_X4_send (ad := am) hfm) hP hD hS my_X4_send kl_L_59 ⟨rfl, rfl⟩ ⟨Nat.le_of_ble_eq_true rfl, Nat.le_of_ble_eq_true rfl⟩ (q0 := 33) (ci := 4) rfl wdL_33 rfl hl.1 rfl (Nat.le_of_ble_eq_true rfl) dL_law_509 ⟨Nat.le_of_ble_eq_true rfl, Nat.le_of_ble_eq_true rfl⟩ (fun H locs hP hD hS => ?_)
      refine lv_icmp_eq (tgt := 1093) hx hb dL_law_512 (by decide) (fun _ => ?_) (fun c2 => absurd rfl c2)
      exact hnext o1 s n1 t r w g1 u hR1 _ _ hP hD hS
    by_cases cs11 : sw = 11
    · refine lv_tableIn (off := 484) (tgt := 517) hx hb dL_law_33 (by rw [cs11]; decide) (by rw [cs11]; decide) (by rw [cs11]; rfl) (by decide) ?_
      obtain ⟨r0, o1, t1, g1, hfx, hfm, hR1⟩ := p_day hR (xs (Int32.toNatClampNeg (x3 + 1))) (xs (Int32.toNatClampNeg (x3 + 2))) (xs (Int32.toNatClampNeg (x3 + 3))) (xs (Int32.toNatClampNeg (x3 + 4))) (xs (Int32.toNatClampNeg (x3 + 5)))
      refine lv_aload_n hx hb dL_law_517 rfl (lv_at hl 1 rfl) ?_
      refine lv_aload_n hx hb dL_law_518 rfl (lv_at hl 0 rfl) ?_
      refine lv_iload_n hx hb dL_law_519 rfl (lv_at hl 3 rfl) ?_
      refine lv_iconst (v := 1) hx hb dL_law_520 (by decide) ?_
      refine lv_iadd hx hb dL_law_521 ?_
      refine va_sld hx hb hX hbl hbA hS (zq_sc (j := 1) h6 (by decide) hL ex3 rfl) dL_law_522 ?_
      refine lv_aload_n hx hb dL_law_523 rfl (lv_at hl 0 rfl) ?_
      refine lv_iload_n hx hb dL_law_524 rfl (lv_at hl 3 rfl) ?_
      refine lv_iconst (v := 2) hx hb dL_law_525 (by decide) ?_
      refine lv_iadd hx hb dL_law_526 ?_
      refine va_sld hx hb hX hbl hbA hS (zq_sc (j := 2) h6 (by decide) hL ex3 rfl) dL_law_527 ?_
      refine lv_aload_n hx hb dL_law_528 rfl (lv_at hl 0 rfl) ?_
      refine lv_iload_n hx hb dL_law_529 rfl (lv_at hl 3 rfl) ?_
      refine lv_iconst (v := 3) hx hb dL_law_530 (by decide) ?_
      refine lv_iadd hx hb dL_law_531 ?_
      refine va_sld hx hb hX hbl hbA hS (zq_sc (j := 3) h6 (by decide) hL ex3 rfl) dL_law_532 ?_
      refine lv_aload_n hx hb dL_law_533 rfl (lv_at hl 0 rfl) ?_
      refine lv_iload_n hx hb dL_law_534 rfl (lv_at hl 3 rfl) ?_
      refine lv_iconst (v := 4) hx hb dL_law_535 (by decide) ?_
      refine lv_iadd hx hb dL_law_536 ?_
      refine va_sld hx hb hX hbl hbA hS (zq_sc (j := 4) h6 (by decide) hL ex3 rfl) dL_law_537 ?_
      refine lv_aload_n hx hb dL_law_538 rfl (lv_at hl 0 rfl) ?_
      refine lv_iload_n hx hb dL_law_539 rfl (lv_at hl 3 rfl) ?_
      refine lv_iconst (v := 5) hx hb dL_law_540 (by decide) ?_
      refine lv_iadd hx hb dL_law_541 ?_
      refine va_sld hx hb hX hbl hbA hS (zq_sc (j := 5) h6 (by decide) hL ex3 rfl) dL_law_542 ?_
      refine zVI (ws' := (wdL ax am cy o1 s n t1 r w g u)) (rest := []) C0 hZ fL_x (c_X3_day (ad := ax) hfx) hP hD hS my_X3_day kl_L_60 ⟨rfl, rfl⟩ ⟨Nat.le_of_ble_eq_true rfl, Nat.le_of_ble_eq_true rfl⟩ (q0 := 0) (ci := 3) rfl wdL_0 rfl hl.1 rfl (Nat.le_of_ble_eq_true rfl) dL_law_543 ⟨Nat.le_of_ble_eq_true rfl, Nat.le_of_ble_eq_true rfl⟩ (fun H locs hP hD hS => ?_)
      refine lv_aload_n hx hb dL_law_546 rfl (lv_at hl 2 rfl) ?_
      refine lv_aload_n hx hb dL_law_547 rfl (lv_at hl 0 rfl) ?_
      refine lv_iload_n hx hb dL_law_548 rfl (lv_at hl 3 rfl) ?_
      refine lv_iconst (v := 1) hx hb dL_law_549 (by decide) ?_
      refine lv_iadd hx hb dL_law_550 ?_
      refine va_sld hx hb hX hbl hbA hS (zq_sc (j := 1) h6 (by decide) hL ex3 rfl) dL_law_551 ?_
      refine lv_aload_n hx hb dL_law_552 rfl (lv_at hl 0 rfl) ?_
      refine lv_iload_n hx hb dL_law_553 rfl (lv_at hl 3 rfl) ?_
      refine lv_iconst (v := 2) hx hb dL_law_554 (by decide) ?_
      refine lv_iadd hx hb dL_law_555 ?_
      refine va_sld hx hb hX hbl hbA hS (zq_sc (j := 2) h6 (by decide) hL ex3 rfl) dL_law_556 ?_
      refine lv_aload_n hx hb dL_law_557 rfl (lv_at hl 0 rfl) ?_
      refine lv_iload_n hx hb dL_law_558 rfl (lv_at hl 3 rfl) ?_
      refine lv_iconst (v := 3) hx hb dL_law_559 (by decide) ?_
      refine lv_iadd hx hb dL_law_560 ?_
      refine va_sld hx hb hX hbl hbA hS (zq_sc (j := 3) h6 (by decide) hL ex3 rfl) dL_law_561 ?_
      refine lv_aload_n hx hb dL_law_562 rfl (lv_at hl 0 rfl) ?_
      refine lv_iload_n hx hb dL_law_563 rfl (lv_at hl 3 rfl) ?_
      refine lv_iconst (v := 4) hx hb dL_law_564 (by decide) ?_
      refine lv_iadd hx hb dL_law_565 ?_
      refine va_sld hx hb hX hbl hbA hS (zq_sc (j := 4) h6 (by decide) hL ex3 rfl) dL_law_566 ?_
      refine lv_aload_n hx hb dL_law_567 rfl (lv_at hl 0 rfl) ?_
      refine lv_iload_n hx hb dL_law_568 rfl (lv_at hl 3 rfl) ?_
      refine lv_iconst (v := 5) hx hb dL_law_569 (by decide) ?_
      refine lv_iadd hx hb dL_law_570 ?_
      refine va_sld hx hb hX hbl hbA hS (zq_sc (j := 5) h6 (by decide) hL ex3 rfl) dL_law_571 ?_
      refine zVI (ws' := (wdL ax am cy o1 s n t1 r w g1 u)) (rest := [.int r0]) C0 hZ fL_m (c_X4_day (ad := am) hfm) hP hD hS my_X4_day kl_L_64 ⟨rfl, rfl⟩ ⟨Nat.le_of_ble_eq_true rfl, Nat.le_of_ble_eq_true rfl⟩ (q0 := 33) (ci := 4) rfl wdL_33 rfl hl.1 rfl (Nat.le_of_ble_eq_true rfl) dL_law_572 ⟨Nat.le_of_ble_eq_true rfl, Nat.le_of_ble_eq_true rfl⟩ (fun H locs hP hD hS => ?_)
      refine lv_icmp_eq (tgt := 1093) hx hb dL_law_575 (by decide) (fun _ => ?_) (fun c2 => absurd rfl c2)
      exact hnext o1 s n t1 r w g1 u hR1 _ _ hP hD hS
    by_cases cs12 : sw = 12
    · refine lv_tableIn (off := 547) (tgt := 580) hx hb dL_law_33 (by rw [cs12]; decide) (by rw [cs12]; decide) (by rw [cs12]; rfl) (by decide) ?_
      obtain ⟨r0, r1, g1, hfx, hfm, hR1⟩ := p_reading hR (xs (Int32.toNatClampNeg (x3 + 1))) (xs (Int32.toNatClampNeg (x3 + 2))) (xs (Int32.toNatClampNeg (x3 + 3)))
      refine lv_aload_n hx hb dL_law_580 rfl (lv_at hl 1 rfl) ?_
      refine lv_aload_n hx hb dL_law_581 rfl (lv_at hl 0 rfl) ?_
      refine lv_iload_n hx hb dL_law_582 rfl (lv_at hl 3 rfl) ?_
      refine lv_iconst (v := 1) hx hb dL_law_583 (by decide) ?_
      refine lv_iadd hx hb dL_law_584 ?_
      refine va_sld hx hb hX hbl hbA hS (zq_sc (j := 1) h6 (by decide) hL ex3 rfl) dL_law_585 ?_
      refine lv_aload_n hx hb dL_law_586 rfl (lv_at hl 0 rfl) ?_
      refine lv_iload_n hx hb dL_law_587 rfl (lv_at hl 3 rfl) ?_
      refine lv_iconst (v := 2) hx hb dL_law_588 (by decide) ?_
      refine lv_iadd hx hb dL_law_589 ?_
      refine va_sld hx hb hX hbl hbA hS (zq_sc (j := 2) h6 (by decide) hL ex3 rfl) dL_law_590 ?_
      refine lv_aload_n hx hb dL_law_591 rfl (lv_at hl 0 rfl) ?_
      refine lv_iload_n hx hb dL_law_592 rfl (lv_at hl 3 rfl) ?_
      refine lv_iconst (v := 3) hx hb dL_law_593 (by decide) ?_
      refine lv_iadd hx hb dL_law_594 ?_
      refine va_sld hx hb hX hbl hbA hS (zq_sc (j := 3) h6 (by decide) hL ex3 rfl) dL_law_595 ?_
      refine zVI (ws' := (wdL ax am cy o s n t r1 w g u)) (rest := []) C0 hZ fL_x (c_X3_reading (ad := ax) hfx) hP hD hS my_X3_reading kl_L_65 ⟨rfl, rfl⟩ ⟨Nat.le_of_ble_eq_true rfl, Nat.le_of_ble_eq_true rfl⟩ (q0 := 0) (ci := 3) rfl wdL_0 rfl hl.1 rfl (Nat.le_of_ble_eq_true rfl) dL_law_596 ⟨Nat.le_of_ble_eq_true rfl, Nat.le_of_ble_eq_true rfl⟩ (fun H locs hP hD hS => ?_)
      refine lv_aload_n hx hb dL_law_599 rfl (lv_at hl 2 rfl) ?_
      refine lv_aload_n hx hb dL_law_600 rfl (lv_at hl 0 rfl) ?_
      refine lv_iload_n hx hb dL_law_601 rfl (lv_at hl 3 rfl) ?_
      refine lv_iconst (v := 1) hx hb dL_law_602 (by decide) ?_
      refine lv_iadd hx hb dL_law_603 ?_
      refine va_sld hx hb hX hbl hbA hS (zq_sc (j := 1) h6 (by decide) hL ex3 rfl) dL_law_604 ?_
      refine lv_aload_n hx hb dL_law_605 rfl (lv_at hl 0 rfl) ?_
      refine lv_iload_n hx hb dL_law_606 rfl (lv_at hl 3 rfl) ?_
      refine lv_iconst (v := 2) hx hb dL_law_607 (by decide) ?_
      refine lv_iadd hx hb dL_law_608 ?_
      refine va_sld hx hb hX hbl hbA hS (zq_sc (j := 2) h6 (by decide) hL ex3 rfl) dL_law_609 ?_
      refine lv_aload_n hx hb dL_law_610 rfl (lv_at hl 0 rfl) ?_
      refine lv_iload_n hx hb dL_law_611 rfl (lv_at hl 3 rfl) ?_
      refine lv_iconst (v := 3) hx hb dL_law_612 (by decide) ?_
      refine lv_iadd hx hb dL_law_613 ?_
      refine va_sld hx hb hX hbl hbA hS (zq_sc (j := 3) h6 (by decide) hL ex3 rfl) dL_law_614 ?_
      refine zVI (ws' := (wdL ax am cy o s n t r1 w g1 u)) (rest := [.int r0]) C0 hZ fL_m (c_X4_reading (ad := am) hfm) hP hD hS my_X4_reading kl_L_69 ⟨rfl, rfl⟩ ⟨Nat.le_of_ble_eq_true rfl, Nat.le_of_ble_eq_true rfl⟩ (q0 := 33) (ci := 4) rfl wdL_33 rfl hl.1 rfl (Nat.le_of_ble_eq_true rfl) dL_law_615 ⟨Nat.le_of_ble_eq_true rfl, Nat.le_of_ble_eq_true rfl⟩ (fun H locs hP hD hS => ?_)
      refine lv_icmp_eq (tgt := 1093) hx hb dL_law_618 (by decide) (fun _ => ?_) (fun c2 => absurd rfl c2)
      exact hnext o s n t r1 w g1 u hR1 _ _ hP hD hS
    by_cases cs13 : sw = 13
    · refine lv_tableIn (off := 590) (tgt := 623) hx hb dL_law_33 (by rw [cs13]; decide) (by rw [cs13]; decide) (by rw [cs13]; rfl) (by decide) ?_
      obtain ⟨r0, r1, g1, hfx, hfm, hR1⟩ := p_back hR (xs (Int32.toNatClampNeg (x3 + 1)))
      refine lv_aload_n hx hb dL_law_623 rfl (lv_at hl 1 rfl) ?_
      refine lv_aload_n hx hb dL_law_624 rfl (lv_at hl 0 rfl) ?_
      refine lv_iload_n hx hb dL_law_625 rfl (lv_at hl 3 rfl) ?_
      refine lv_iconst (v := 1) hx hb dL_law_626 (by decide) ?_
      refine lv_iadd hx hb dL_law_627 ?_
      refine va_sld hx hb hX hbl hbA hS (zq_sc (j := 1) h6 (by decide) hL ex3 rfl) dL_law_628 ?_
      refine zVI (ws' := (wdL ax am cy o s n t r1 w g u)) (rest := []) C0 hZ fL_x (c_X3_back (ad := ax) hfx) hP hD hS my_X3_back kl_L_70 ⟨rfl, rfl⟩ ⟨Nat.le_of_ble_eq_true rfl, Nat.le_of_ble_eq_true rfl⟩ (q0 := 0) (ci := 3) rfl wdL_0 rfl hl.1 rfl (Nat.le_of_ble_eq_true rfl) dL_law_629 ⟨Nat.le_of_ble_eq_true rfl, Nat.le_of_ble_eq_true rfl⟩ (fun H locs hP hD hS => ?_)
      refine lv_aload_n hx hb dL_law_632 rfl (lv_at hl 2 rfl) ?_
      refine lv_aload_n hx hb dL_law_633 rfl (lv_at hl 0 rfl) ?_
      refine lv_iload_n hx hb dL_law_634 rfl (lv_at hl 3 rfl) ?_
      refine lv_iconst (v := 1) hx hb dL_law_635 (by decide) ?_
      refine lv_iadd hx hb dL_law_636 ?_
      refine va_sld hx hb hX hbl hbA hS (zq_sc (j := 1) h6 (by decide) hL ex3 rfl) dL_law_637 ?_
      refine zVI (ws' := (wdL ax am cy o s n t r1 w g1 u)) (rest := [.int r0]) C0 hZ fL_m (c_X4_back (ad := am) hfm) hP hD hS my_X4_back kl_L_73 ⟨rfl, rfl⟩ ⟨Nat.le_of_ble_eq_true rfl, Nat.le_of_ble_eq_true rfl⟩ (q0 := 33) (ci := 4) rfl wdL_33 rfl hl.1 rfl (Nat.le_of_ble_eq_true rfl) dL_law_638 ⟨Nat.le_of_ble_eq_true rfl, Nat.le_of_ble_eq_true rfl⟩ (fun H locs hP hD hS => ?_)
      refine lv_icmp_eq (tgt := 1093) hx hb dL_law_641 (by decide) (fun _ => ?_) (fun c2 => absurd rfl c2)
      exact hnext o s n t r1 w g1 u hR1 _ _ hP hD hS
    by_cases cs14 : sw = 14
    · refine lv_tableIn (off := 613) (tgt := 646) hx hb dL_law_33 (by rw [cs14]; decide) (by rw [cs14]; decide) (by rw [cs14]; rfl) (by decide) ?_
      obtain ⟨r0, t1, g1, hfx, hfm, hR1⟩ := p_kinds hR (xs (Int32.toNatClampNeg (x3 + 1)))
      refine lv_aload_n hx hb dL_law_646 rfl (lv_at hl 1 rfl) ?_
      refine lv_aload_n hx hb dL_law_647 rfl (lv_at hl 0 rfl) ?_
      refine lv_iload_n hx hb dL_law_648 rfl (lv_at hl 3 rfl) ?_
      refine lv_iconst (v := 1) hx hb dL_law_649 (by decide) ?_
      refine lv_iadd hx hb dL_law_650 ?_
      refine va_sld hx hb hX hbl hbA hS (zq_sc (j := 1) h6 (by decide) hL ex3 rfl) dL_law_651 ?_
      refine zVI (ws' := (wdL ax am cy o s n t1 r w g u)) (rest := []) C0 hZ fL_x (c_X3_kinds (ad := ax) hfx) hP hD hS my_X3_kinds kl_L_74 ⟨rfl, rfl⟩ ⟨Nat.le_of_ble_eq_true rfl, Nat.le_of_ble_eq_true rfl⟩ (q0 := 0) (ci := 3) rfl wdL_0 rfl hl.1 rfl (Nat.le_of_ble_eq_true rfl) dL_law_652 ⟨Nat.le_of_ble_eq_true rfl, Nat.le_of_ble_eq_true rfl⟩ (fun H locs hP hD hS => ?_)
      refine lv_aload_n hx hb dL_law_655 rfl (lv_at hl 2 rfl) ?_
      refine lv_aload_n hx hb dL_law_656 rfl (lv_at hl 0 rfl) ?_
      refine lv_iload_n hx hb dL_law_657 rfl (lv_at hl 3 rfl) ?_
      refine lv_iconst (v := 1) hx hb dL_law_658 (by decide) ?_
      refine lv_iadd hx hb dL_law_659 ?_
      refine va_sld hx hb hX hbl hbA hS (zq_sc (j := 1) h6 (by decide) hL ex3 rfl) dL_law_660 ?_
      refine zVI (ws' := (wdL ax am cy o s n t1 r w g1 u)) (rest := [.int r0]) C0 hZ fL_m (c_X4_kinds (ad := am) hfm) hP hD hS my_X4_kinds kl_L_77 ⟨rfl, rfl⟩ ⟨Nat.le_of_ble_eq_true rfl, Nat.le_of_ble_eq_true rfl⟩ (q0 := 33) (ci := 4) rfl wdL_33 rfl hl.1 rfl (Nat.le_of_ble_eq_true rfl) dL_law_661 ⟨Nat.le_of_ble_eq_true rfl, Nat.le_of_ble_eq_true rfl⟩ (fun H locs hP hD hS => ?_)
      refine lv_icmp_eq (tgt := 1093) hx hb dL_law_664 (by decide) (fun _ => ?_) (fun c2 => absurd rfl c2)
      exact hnext o s n t1 r w g1 u hR1 _ _ hP hD hS
    by_cases cs15 : sw = 15
    · refine lv_tableIn (off := 636) (tgt := 669) hx hb dL_law_33 (by rw [cs15]; decide) (by rw [cs15]; decide) (by rw [cs15]; rfl) (by decide) ?_
      obtain ⟨r0, t1, g1, hfx, hfm, hR1⟩ := p_levels hR (xs (Int32.toNatClampNeg (x3 + 1)))
      refine lv_aload_n hx hb dL_law_669 rfl (lv_at hl 1 rfl) ?_
      refine lv_aload_n hx hb dL_law_670 rfl (lv_at hl 0 rfl) ?_
      refine lv_iload_n hx hb dL_law_671 rfl (lv_at hl 3 rfl) ?_
      refine lv_iconst (v := 1) hx hb dL_law_672 (by decide) ?_
      refine lv_iadd hx hb dL_law_673 ?_
      refine va_sld hx hb hX hbl hbA hS (zq_sc (j := 1) h6 (by decide) hL ex3 rfl) dL_law_674 ?_
      refine zVI (ws' := (wdL ax am cy o s n t1 r w g u)) (rest := []) C0 hZ fL_x (c_X3_levels (ad := ax) hfx) hP hD hS my_X3_levels kl_L_78 ⟨rfl, rfl⟩ ⟨Nat.le_of_ble_eq_true rfl, Nat.le_of_ble_eq_true rfl⟩ (q0 := 0) (ci := 3) rfl wdL_0 rfl hl.1 rfl (Nat.le_of_ble_eq_true rfl) dL_law_675 ⟨Nat.le_of_ble_eq_true rfl, Nat.le_of_ble_eq_true rfl⟩ (fun H locs hP hD hS => ?_)
      refine lv_aload_n hx hb dL_law_678 rfl (lv_at hl 2 rfl) ?_
      refine lv_aload_n hx hb dL_law_679 rfl (lv_at hl 0 rfl) ?_
      refine lv_iload_n hx hb dL_law_680 rfl (lv_at hl 3 rfl) ?_
      refine lv_iconst (v := 1) hx hb dL_law_681 (by decide) ?_
      refine lv_iadd hx hb dL_law_682 ?_
      refine va_sld hx hb hX hbl hbA hS (zq_sc (j := 1) h6 (by decide) hL ex3 rfl) dL_law_683 ?_
      refine zVI (ws' := (wdL ax am cy o s n t1 r w g1 u)) (rest := [.int r0]) C0 hZ fL_m (c_X4_levels (ad := am) hfm) hP hD hS my_X4_levels kl_L_81 ⟨rfl, rfl⟩ ⟨Nat.le_of_ble_eq_true rfl, Nat.le_of_ble_eq_true rfl⟩ (q0 := 33) (ci := 4) rfl wdL_33 rfl hl.1 rfl (Nat.le_of_ble_eq_true rfl) dL_law_684 ⟨Nat.le_of_ble_eq_true rfl, Nat.le_of_ble_eq_true rfl⟩ (fun H locs hP hD hS => ?_)
      refine lv_icmp_eq (tgt := 1093) hx hb dL_law_687 (by decide) (fun _ => ?_) (fun c2 => absurd rfl c2)
      exact hnext o s n t1 r w g1 u hR1 _ _ hP hD hS
    by_cases cs16 : sw = 16
    · refine lv_tableIn (off := 659) (tgt := 692) hx hb dL_law_33 (by rw [cs16]; decide) (by rw [cs16]; decide) (by rw [cs16]; rfl) (by decide) ?_
      obtain ⟨r0, t1, g1, hfx, hfm, hR1⟩ := p_cuts hR
      refine lv_aload_n hx hb dL_law_692 rfl (lv_at hl 1 rfl) ?_
      refine zVI (ws' := (wdL ax am cy o s n t1 r w g u)) (rest := []) C0 hZ fL_x (c_X3_cuts (ad := ax) hfx) hP hD hS my_X3_cuts kl_L_82 ⟨rfl, rfl⟩ ⟨Nat.le_of_ble_eq_true rfl, Nat.le_of_ble_eq_true rfl⟩ (q0 := 0) (ci := 3) rfl wdL_0 rfl hl.1 rfl (Nat.le_of_ble_eq_true rfl) dL_law_693 ⟨Nat.le_of_ble_eq_true rfl, Nat.le_of_ble_eq_true rfl⟩ (fun H locs hP hD hS => ?_)
      refine lv_aload_n hx hb dL_law_696 rfl (lv_at hl 2 rfl) ?_
      refine zVI (ws' := (wdL ax am cy o s n t1 r w g1 u)) (rest := [.int r0]) C0 hZ fL_m (c_X4_cuts (ad := am) hfm) hP hD hS my_X4_cuts kl_L_86 ⟨rfl, rfl⟩ ⟨Nat.le_of_ble_eq_true rfl, Nat.le_of_ble_eq_true rfl⟩ (q0 := 33) (ci := 4) rfl wdL_33 rfl hl.1 rfl (Nat.le_of_ble_eq_true rfl) dL_law_697 ⟨Nat.le_of_ble_eq_true rfl, Nat.le_of_ble_eq_true rfl⟩ (fun H locs hP hD hS => ?_)
      refine lv_icmp_eq (tgt := 1093) hx hb dL_law_700 (by decide) (fun _ => ?_) (fun c2 => absurd rfl c2)
      exact hnext o s n t1 r w g1 u hR1 _ _ hP hD hS
    by_cases cs17 : sw = 17
    · refine lv_tableIn (off := 672) (tgt := 705) hx hb dL_law_33 (by rw [cs17]; decide) (by rw [cs17]; decide) (by rw [cs17]; rfl) (by decide) ?_
      obtain ⟨r0, w1, g1, u1, hfx, hfm, hR1⟩ := p_odds hR (xs (Int32.toNatClampNeg (x3 + 1))) (xs (Int32.toNatClampNeg (x3 + 2))) (xs (Int32.toNatClampNeg (x3 + 3)))
      refine lv_aload_n hx hb dL_law_705 rfl (lv_at hl 1 rfl) ?_
      refine lv_aload_n hx hb dL_law_706 rfl (lv_at hl 0 rfl) ?_
      refine lv_iload_n hx hb dL_law_707 rfl (lv_at hl 3 rfl) ?_
      refine lv_iconst (v := 1) hx hb dL_law_708 (by decide) ?_
      refine lv_iadd hx hb dL_law_709 ?_
      refine va_sld hx hb hX hbl hbA hS (zq_sc (j := 1) h6 (by decide) hL ex3 rfl) dL_law_710 ?_
      refine lv_aload_n hx hb dL_law_711 rfl (lv_at hl 0 rfl) ?_
      refine lv_iload_n hx hb dL_law_712 rfl (lv_at hl 3 rfl) ?_
      refine lv_iconst (v := 2) hx hb dL_law_713 (by decide) ?_
      refine lv_iadd hx hb dL_law_714 ?_
      refine va_sld hx hb hX hbl hbA hS (zq_sc (j := 2) h6 (by decide) hL ex3 rfl) dL_law_715 ?_
      refine lv_aload_n hx hb dL_law_716 rfl (lv_at hl 0 rfl) ?_
      refine lv_iload_n hx hb dL_law_717 rfl (lv_at hl 3 rfl) ?_
      refine lv_iconst (v := 3) hx hb dL_law_718 (by decide) ?_
      refine lv_iadd hx hb dL_law_719 ?_
      refine va_sld hx hb hX hbl hbA hS (zq_sc (j := 3) h6 (by decide) hL ex3 rfl) dL_law_720 ?_
      refine zVL (ws' := (wdL ax am cy o s n t r w1 g u)) (rest := []) C0 hZ fL_x (c_X3_odds (ad := ax) hfx) hP hD hS my_X3_odds kl_L_87 ⟨rfl, rfl⟩ ⟨Nat.le_of_ble_eq_true rfl, Nat.le_of_ble_eq_true rfl⟩ (q0 := 0) (ci := 3) rfl wdL_0 rfl hl.1 rfl (Nat.le_of_ble_eq_true rfl) dL_law_721 ⟨Nat.le_of_ble_eq_true rfl, Nat.le_of_ble_eq_true rfl⟩ (fun H locs hP hD hS => ?_)
      refine lv_aload_n hx hb dL_law_724 rfl (lv_at hl 2 rfl) ?_
      refine lv_aload_n hx hb dL_law_725 rfl (lv_at hl 0 rfl) ?_
      refine lv_iload_n hx hb dL_law_726 rfl (lv_at hl 3 rfl) ?_
      refine lv_iconst (v := 1) hx hb dL_law_727 (by decide) ?_
      refine lv_iadd hx hb dL_law_728 ?_
      refine va_sld hx hb hX hbl hbA hS (zq_sc (j := 1) h6 (by decide) hL ex3 rfl) dL_law_729 ?_
      refine lv_aload_n hx hb dL_law_730 rfl (lv_at hl 0 rfl) ?_
      refine lv_iload_n hx hb dL_law_731 rfl (lv_at hl 3 rfl) ?_
      refine lv_iconst (v := 2) hx hb dL_law_732 (by decide) ?_
      refine lv_iadd hx hb dL_law_733 ?_
      refine va_sld hx hb hX hbl hbA hS (zq_sc (j := 2) h6 (by decide) hL ex3 rfl) dL_law_734 ?_
      refine lv_aload_n hx hb dL_law_735 rfl (lv_at hl 0 rfl) ?_
      refine lv_iload_n hx hb dL_law_736 rfl (lv_at hl 3 rfl) ?_
      refine lv_iconst (v := 3) hx hb dL_law_737 (by decide) ?_
      refine lv_iadd hx hb dL_law_738 ?_
      refine va_sld hx hb hX hbl hbA hS (zq_sc (j := 3) h6 (by decide) hL ex3 rfl) dL_law_739 ?_
      refine zVL (ws' := (wdL ax am cy o s n t r w1 g1 u1)) (rest := [.long r0]) C0 hZ fL_m (c_X4_odds (ad := am) hfm) hP hD hS my_X4_odds kl_L_91 ⟨rfl, rfl⟩ ⟨Nat.le_of_ble_eq_true rfl, Nat.le_of_ble_eq_true rfl⟩ (q0 := 33) (ci := 4) rfl wdL_33 rfl hl.1 rfl (Nat.le_of_ble_eq_true rfl) dL_law_740 ⟨Nat.le_of_ble_eq_true rfl, Nat.le_of_ble_eq_true rfl⟩ (fun H locs hP hD hS => ?_)
      refine W.lcmp hx hb dL_law_743 ?_
      refine lv_if_eq (tgt := 1093) hx hb dL_law_744 (by decide) (fun _ => ?_) (fun c2 => absurd (by simp [lg_cmp]) c2)
      exact hnext o s n t r w1 g1 u1 hR1 _ _ hP hD hS
    by_cases cs18 : sw = 18
    · refine lv_tableIn (off := 716) (tgt := 749) hx hb dL_law_33 (by rw [cs18]; decide) (by rw [cs18]; decide) (by rw [cs18]; rfl) (by decide) ?_
      obtain ⟨r0, o1, s1, g1, hfx, hfm, hR1⟩ := p_sheet hR (xs (Int32.toNatClampNeg (x3 + 1))) (xs (Int32.toNatClampNeg (x3 + 2))) (xs (Int32.toNatClampNeg (x3 + 3)))
      refine lv_aload_n hx hb dL_law_749 rfl (lv_at hl 1 rfl) ?_
      refine lv_aload_n hx hb dL_law_750 rfl (lv_at hl 0 rfl) ?_
      refine lv_iload_n hx hb dL_law_751 rfl (lv_at hl 3 rfl) ?_
      refine lv_iconst (v := 1) hx hb dL_law_752 (by decide) ?_
      refine lv_iadd hx hb dL_law_753 ?_
      refine va_sld hx hb hX hbl hbA hS (zq_sc (j := 1) h6 (by decide) hL ex3 rfl) dL_law_754 ?_
      refine lv_aload_n hx hb dL_law_755 rfl (lv_at hl 0 rfl) ?_
      refine lv_iload_n hx hb dL_law_756 rfl (lv_at hl 3 rfl) ?_
      refine lv_iconst (v := 2) hx hb dL_law_757 (by decide) ?_
      refine lv_iadd hx hb dL_law_758 ?_
      refine va_sld hx hb hX hbl hbA hS (zq_sc (j := 2) h6 (by decide) hL ex3 rfl) dL_law_759 ?_
      refine lv_aload_n hx hb dL_law_760 rfl (lv_at hl 0 rfl) ?_
      refine lv_iload_n hx hb dL_law_761 rfl (lv_at hl 3 rfl) ?_
      refine lv_iconst (v := 3) hx hb dL_law_762 (by decide) ?_
      refine lv_iadd hx hb dL_law_763 ?_
      refine va_sld hx hb hX hbl hbA hS (zq_sc (j := 3) h6 (by decide) hL ex3 rfl) dL_law_764 ?_
      refine zVI (ws' := (wdL ax am cy o1 s1 n t r w g u)) (rest := []) C0 hZ fL_x (c_X3_sheet (ad := ax) hfx) hP hD hS my_X3_sheet kl_L_92 ⟨rfl, rfl⟩ ⟨Nat.le_of_ble_eq_true rfl, Nat.le_of_ble_eq_true rfl⟩ (q0 := 0) (ci := 3) rfl wdL_0 rfl hl.1 rfl (Nat.le_of_ble_eq_true rfl) dL_law_765 ⟨Nat.le_of_ble_eq_true rfl, Nat.le_of_ble_eq_true rfl⟩ (fun H locs hP hD hS => ?_)
      refine lv_aload_n hx hb dL_law_768 rfl (lv_at hl 2 rfl) ?_
      refine lv_aload_n hx hb dL_law_769 rfl (lv_at hl 0 rfl) ?_
      refine lv_iload_n hx hb dL_law_770 rfl (lv_at hl 3 rfl) ?_
      refine lv_iconst (v := 1) hx hb dL_law_771 (by decide) ?_
      refine lv_iadd hx hb dL_law_772 ?_
      refine va_sld hx hb hX hbl hbA hS (zq_sc (j := 1) h6 (by decide) hL ex3 rfl) dL_law_773 ?_
      refine lv_aload_n hx hb dL_law_774 rfl (lv_at hl 0 rfl) ?_
      refine lv_iload_n hx hb dL_law_775 rfl (lv_at hl 3 rfl) ?_
      refine lv_iconst (v := 2) hx hb dL_law_776 (by decide) ?_
      refine lv_iadd hx hb dL_law_777 ?_
      refine va_sld hx hb hX hbl hbA hS (zq_sc (j := 2) h6 (by decide) hL ex3 rfl) dL_law_778 ?_
      refine lv_aload_n hx hb dL_law_779 rfl (lv_at hl 0 rfl) ?_
      refine lv_iload_n hx hb dL_law_780 rfl (lv_at hl 3 rfl) ?_
      refine lv_iconst (v := 3) hx hb dL_law_781 (by decide) ?_
      refine lv_iadd hx hb dL_law_782 ?_
      refine va_sld hx hb hX hbl hbA hS (zq_sc (j := 3) h6 (by decide) hL ex3 rfl) dL_law_783 ?_
      refine zVI (ws' := (wdL ax am cy o1 s1 n t r w g1 u)) (rest := [.int r0]) C0 hZ fL_m (c_X4_sheet (ad := am) hfm) hP hD hS my_X4_sheet kl_L_95 ⟨rfl, rfl⟩ ⟨Nat.le_of_ble_eq_true rfl, Nat.le_of_ble_eq_true rfl⟩ (q0 := 33) (ci := 4) rfl wdL_33 rfl hl.1 rfl (Nat.le_of_ble_eq_true rfl) dL_law_784 ⟨Nat.le_of_ble_eq_true rfl, Nat.le_of_ble_eq_true rfl⟩ (fun H locs hP hD hS => ?_)
      refine lv_icmp_eq (tgt := 1093) hx hb dL_law_787 (by decide) (fun _ => ?_) (fun c2 => absurd rfl c2)
      exact hnext o1 s1 n t r w g1 u hR1 _ _ hP hD hS
    by_cases cs19 : sw = 19
    · refine lv_tableIn (off := 759) (tgt := 792) hx hb dL_law_33 (by rw [cs19]; decide) (by rw [cs19]; decide) (by rw [cs19]; rfl) (by decide) ?_
      obtain ⟨r0, s1, g1, hfx, hfm, hR1⟩ := p_lose hR (xs (Int32.toNatClampNeg (x3 + 1)))
      refine lv_aload_n hx hb dL_law_792 rfl (lv_at hl 1 rfl) ?_
      refine lv_aload_n hx hb dL_law_793 rfl (lv_at hl 0 rfl) ?_
      refine lv_iload_n hx hb dL_law_794 rfl (lv_at hl 3 rfl) ?_
      refine lv_iconst (v := 1) hx hb dL_law_795 (by decide) ?_
      refine lv_iadd hx hb dL_law_796 ?_
      refine va_sld hx hb hX hbl hbA hS (zq_sc (j := 1) h6 (by decide) hL ex3 rfl) dL_law_797 ?_
      refine zVI (ws' := (wdL ax am cy o s1 n t r w g u)) (rest := []) C0 hZ fL_x (c_X3_lose (ad := ax) hfx) hP hD hS my_X3_lose kl_L_96 ⟨rfl, rfl⟩ ⟨Nat.le_of_ble_eq_true rfl, Nat.le_of_ble_eq_true rfl⟩ (q0 := 0) (ci := 3) rfl wdL_0 rfl hl.1 rfl (Nat.le_of_ble_eq_true rfl) dL_law_798 ⟨Nat.le_of_ble_eq_true rfl, Nat.le_of_ble_eq_true rfl⟩ (fun H locs hP hD hS => ?_)
      refine lv_aload_n hx hb dL_law_801 rfl (lv_at hl 2 rfl) ?_
      refine lv_aload_n hx hb dL_law_802 rfl (lv_at hl 0 rfl) ?_
      refine lv_iload_n hx hb dL_law_803 rfl (lv_at hl 3 rfl) ?_
      refine lv_iconst (v := 1) hx hb dL_law_804 (by decide) ?_
      refine lv_iadd hx hb dL_law_805 ?_
      refine va_sld hx hb hX hbl hbA hS (zq_sc (j := 1) h6 (by decide) hL ex3 rfl) dL_law_806 ?_
      refine zVI (ws' := (wdL ax am cy o s1 n t r w g1 u)) (rest := [.int r0]) C0 hZ fL_m (c_X4_lose (ad := am) hfm) hP hD hS my_X4_lose kl_L_99 ⟨rfl, rfl⟩ ⟨Nat.le_of_ble_eq_true rfl, Nat.le_of_ble_eq_true rfl⟩ (q0 := 33) (ci := 4) rfl wdL_33 rfl hl.1 rfl (Nat.le_of_ble_eq_true rfl) dL_law_807 ⟨Nat.le_of_ble_eq_true rfl, Nat.le_of_ble_eq_true rfl⟩ (fun H locs hP hD hS => ?_)
      refine lv_icmp_eq (tgt := 1093) hx hb dL_law_810 (by decide) (fun _ => ?_) (fun c2 => absurd rfl c2)
      exact hnext o s1 n t r w g1 u hR1 _ _ hP hD hS
    by_cases cs20 : sw = 20
    · refine lv_tableIn (off := 782) (tgt := 815) hx hb dL_law_33 (by rw [cs20]; decide) (by rw [cs20]; decide) (by rw [cs20]; rfl) (by decide) ?_
      obtain ⟨r0, o1, s1, g1, hfx, hfm, hR1⟩ := p_put hR (xs (Int32.toNatClampNeg (x3 + 1))) (xs (Int32.toNatClampNeg (x3 + 2))) (xs (Int32.toNatClampNeg (x3 + 3)))
      refine lv_aload_n hx hb dL_law_815 rfl (lv_at hl 1 rfl) ?_
      refine lv_aload_n hx hb dL_law_816 rfl (lv_at hl 0 rfl) ?_
      refine lv_iload_n hx hb dL_law_817 rfl (lv_at hl 3 rfl) ?_
      refine lv_iconst (v := 1) hx hb dL_law_818 (by decide) ?_
      refine lv_iadd hx hb dL_law_819 ?_
      refine va_sld hx hb hX hbl hbA hS (zq_sc (j := 1) h6 (by decide) hL ex3 rfl) dL_law_820 ?_
      refine lv_aload_n hx hb dL_law_821 rfl (lv_at hl 0 rfl) ?_
      refine lv_iload_n hx hb dL_law_822 rfl (lv_at hl 3 rfl) ?_
      refine lv_iconst (v := 2) hx hb dL_law_823 (by decide) ?_
      refine lv_iadd hx hb dL_law_824 ?_
      refine va_sld hx hb hX hbl hbA hS (zq_sc (j := 2) h6 (by decide) hL ex3 rfl) dL_law_825 ?_
      refine lv_aload_n hx hb dL_law_826 rfl (lv_at hl 0 rfl) ?_
      refine lv_iload_n hx hb dL_law_827 rfl (lv_at hl 3 rfl) ?_
      refine lv_iconst (v := 3) hx hb dL_law_828 (by decide) ?_
      refine lv_iadd hx hb dL_law_829 ?_
      refine va_sld hx hb hX hbl hbA hS (zq_sc (j := 3) h6 (by decide) hL ex3 rfl) dL_law_830 ?_
      refine zVI (ws' := (wdL ax am cy o1 s1 n t r w g u)) (rest := []) C0 hZ fL_x (c_X3_put (ad := ax) hfx) hP hD hS my_X3_put kl_L_100 ⟨rfl, rfl⟩ ⟨Nat.le_of_ble_eq_true rfl, Nat.le_of_ble_eq_true rfl⟩ (q0 := 0) (ci := 3) rfl wdL_0 rfl hl.1 rfl (Nat.le_of_ble_eq_true rfl) dL_law_831 ⟨Nat.le_of_ble_eq_true rfl, Nat.le_of_ble_eq_true rfl⟩ (fun H locs hP hD hS => ?_)
      refine lv_aload_n hx hb dL_law_834 rfl (lv_at hl 2 rfl) ?_
      refine lv_aload_n hx hb dL_law_835 rfl (lv_at hl 0 rfl) ?_
      refine lv_iload_n hx hb dL_law_836 rfl (lv_at hl 3 rfl) ?_
      refine lv_iconst (v := 1) hx hb dL_law_837 (by decide) ?_
      refine lv_iadd hx hb dL_law_838 ?_
      refine va_sld hx hb hX hbl hbA hS (zq_sc (j := 1) h6 (by decide) hL ex3 rfl) dL_law_839 ?_
      refine lv_aload_n hx hb dL_law_840 rfl (lv_at hl 0 rfl) ?_
      refine lv_iload_n hx hb dL_law_841 rfl (lv_at hl 3 rfl) ?_
      refine lv_iconst (v := 2) hx hb dL_law_842 (by decide) ?_
      refine lv_iadd hx hb dL_law_843 ?_
      refine va_sld hx hb hX hbl hbA hS (zq_sc (j := 2) h6 (by decide) hL ex3 rfl) dL_law_844 ?_
      refine lv_aload_n hx hb dL_law_845 rfl (lv_at hl 0 rfl) ?_
      refine lv_iload_n hx hb dL_law_846 rfl (lv_at hl 3 rfl) ?_
      refine lv_iconst (v := 3) hx hb dL_law_847 (by decide) ?_
      refine lv_iadd hx hb dL_law_848 ?_
      refine va_sld hx hb hX hbl hbA hS (zq_sc (j := 3) h6 (by decide) hL ex3 rfl) dL_law_849 ?_
      refine zVI (ws' := (wdL ax am cy o1 s1 n t r w g1 u)) (rest := [.int r0]) C0 hZ fL_m (c_X4_put (ad := am) hfm) hP hD hS my_X4_put kl_L_103 ⟨rfl, rfl⟩ ⟨Nat.le_of_ble_eq_true rfl, Nat.le_of_ble_eq_true rfl⟩ (q0 := 33) (ci := 4) rfl wdL_33 rfl hl.1 rfl (Nat.le_of_ble_eq_true rfl) dL_law_850 ⟨Nat.le_of_ble_eq_true rfl, Nat.le_of_ble_eq_true rfl⟩ (fun H locs hP hD hS => ?_)
      refine lv_icmp_eq (tgt := 1093) hx hb dL_law_853 (by decide) (fun _ => ?_) (fun c2 => absurd rfl c2)
      exact hnext o1 s1 n t r w g1 u hR1 _ _ hP hD hS
    by_cases cs21 : sw = 21
    · refine lv_tableIn (off := 825) (tgt := 858) hx hb dL_law_33 (by rw [cs21]; decide) (by rw [cs21]; decide) (by rw [cs21]; rfl) (by decide) ?_
      obtain ⟨r0, o1, g1, hfx, hfm, hR1⟩ := p_cell hR (xs (Int32.toNatClampNeg (x3 + 1))) (xs (Int32.toNatClampNeg (x3 + 2))) (xs (Int32.toNatClampNeg (x3 + 3)))
      refine lv_aload_n hx hb dL_law_858 rfl (lv_at hl 1 rfl) ?_
      refine lv_aload_n hx hb dL_law_859 rfl (lv_at hl 0 rfl) ?_
      refine lv_iload_n hx hb dL_law_860 rfl (lv_at hl 3 rfl) ?_
      refine lv_iconst (v := 1) hx hb dL_law_861 (by decide) ?_
      refine lv_iadd hx hb dL_law_862 ?_
      refine va_sld hx hb hX hbl hbA hS (zq_sc (j := 1) h6 (by decide) hL ex3 rfl) dL_law_863 ?_
      refine lv_aload_n hx hb dL_law_864 rfl (lv_at hl 0 rfl) ?_
      refine lv_iload_n hx hb dL_law_865 rfl (lv_at hl 3 rfl) ?_
      refine lv_iconst (v := 2) hx hb dL_law_866 (by decide) ?_
      refine lv_iadd hx hb dL_law_867 ?_
      refine va_sld hx hb hX hbl hbA hS (zq_sc (j := 2) h6 (by decide) hL ex3 rfl) dL_law_868 ?_
      refine lv_aload_n hx hb dL_law_869 rfl (lv_at hl 0 rfl) ?_
      refine lv_iload_n hx hb dL_law_870 rfl (lv_at hl 3 rfl) ?_
      refine lv_iconst (v := 3) hx hb dL_law_871 (by decide) ?_
      refine lv_iadd hx hb dL_law_872 ?_
      refine va_sld hx hb hX hbl hbA hS (zq_sc (j := 3) h6 (by decide) hL ex3 rfl) dL_law_873 ?_
      refine zVL (ws' := (wdL ax am cy o1 s n t r w g u)) (rest := []) C0 hZ fL_x (c_X3_cell (ad := ax) hfx) hP hD hS my_X3_cell kl_L_104 ⟨rfl, rfl⟩ ⟨Nat.le_of_ble_eq_true rfl, Nat.le_of_ble_eq_true rfl⟩ (q0 := 0) (ci := 3) rfl wdL_0 rfl hl.1 rfl (Nat.le_of_ble_eq_true rfl) dL_law_874 ⟨Nat.le_of_ble_eq_true rfl, Nat.le_of_ble_eq_true rfl⟩ (fun H locs hP hD hS => ?_)
      refine lv_aload_n hx hb dL_law_877 rfl (lv_at hl 2 rfl) ?_
      refine lv_aload_n hx hb dL_law_878 rfl (lv_at hl 0 rfl) ?_
      refine lv_iload_n hx hb dL_law_879 rfl (lv_at hl 3 rfl) ?_
      refine lv_iconst (v := 1) hx hb dL_law_880 (by decide) ?_
      refine lv_iadd hx hb dL_law_881 ?_
      refine va_sld hx hb hX hbl hbA hS (zq_sc (j := 1) h6 (by decide) hL ex3 rfl) dL_law_882 ?_
      refine lv_aload_n hx hb dL_law_883 rfl (lv_at hl 0 rfl) ?_
      refine lv_iload_n hx hb dL_law_884 rfl (lv_at hl 3 rfl) ?_
      refine lv_iconst (v := 2) hx hb dL_law_885 (by decide) ?_
      refine lv_iadd hx hb dL_law_886 ?_
      refine va_sld hx hb hX hbl hbA hS (zq_sc (j := 2) h6 (by decide) hL ex3 rfl) dL_law_887 ?_
      refine lv_aload_n hx hb dL_law_888 rfl (lv_at hl 0 rfl) ?_
      refine lv_iload_n hx hb dL_law_889 rfl (lv_at hl 3 rfl) ?_
      refine lv_iconst (v := 3) hx hb dL_law_890 (by decide) ?_
      refine lv_iadd hx hb dL_law_891 ?_
      refine va_sld hx hb hX hbl hbA hS (zq_sc (j := 3) h6 (by decide) hL ex3 rfl) dL_law_892 ?_
      refine zVL (ws' := (wdL ax am cy o1 s n t r w g1 u)) (rest := [.long r0]) C0 hZ fL_m (c_X4_cell (ad := am) hfm) hP hD hS my_X4_cell kl_L_107 ⟨rfl, rfl⟩ ⟨Nat.le_of_ble_eq_true rfl, Nat.le_of_ble_eq_true rfl⟩ (q0 := 33) (ci := 4) rfl wdL_33 rfl hl.1 rfl (Nat.le_of_ble_eq_true rfl) dL_law_893 ⟨Nat.le_of_ble_eq_true rfl, Nat.le_of_ble_eq_true rfl⟩ (fun H locs hP hD hS => ?_)
      refine W.lcmp hx hb dL_law_896 ?_
      refine lv_if_eq (tgt := 1093) hx hb dL_law_897 (by decide) (fun _ => ?_) (fun c2 => absurd (by simp [lg_cmp]) c2)
      exact hnext o1 s n t r w g1 u hR1 _ _ hP hD hS
    by_cases cs22 : sw = 22
    · refine lv_tableIn (off := 869) (tgt := 902) hx hb dL_law_33 (by rw [cs22]; decide) (by rw [cs22]; decide) (by rw [cs22]; rfl) (by decide) ?_
      obtain ⟨r0, o1, s1, g1, hfx, hfm, hR1⟩ := p_copy hR (xs (Int32.toNatClampNeg (x3 + 1))) (xs (Int32.toNatClampNeg (x3 + 2))) (xs (Int32.toNatClampNeg (x3 + 3))) (xs (Int32.toNatClampNeg (x3 + 4))) (xs (Int32.toNatClampNeg (x3 + 5)))
      refine lv_aload_n hx hb dL_law_902 rfl (lv_at hl 1 rfl) ?_
      refine lv_aload_n hx hb dL_law_903 rfl (lv_at hl 0 rfl) ?_
      refine lv_iload_n hx hb dL_law_904 rfl (lv_at hl 3 rfl) ?_
      refine lv_iconst (v := 1) hx hb dL_law_905 (by decide) ?_
      refine lv_iadd hx hb dL_law_906 ?_
      refine va_sld hx hb hX hbl hbA hS (zq_sc (j := 1) h6 (by decide) hL ex3 rfl) dL_law_907 ?_
      refine lv_aload_n hx hb dL_law_908 rfl (lv_at hl 0 rfl) ?_
      refine lv_iload_n hx hb dL_law_909 rfl (lv_at hl 3 rfl) ?_
      refine lv_iconst (v := 2) hx hb dL_law_910 (by decide) ?_
      refine lv_iadd hx hb dL_law_911 ?_
      refine va_sld hx hb hX hbl hbA hS (zq_sc (j := 2) h6 (by decide) hL ex3 rfl) dL_law_912 ?_
      refine lv_aload_n hx hb dL_law_913 rfl (lv_at hl 0 rfl) ?_
      refine lv_iload_n hx hb dL_law_914 rfl (lv_at hl 3 rfl) ?_
      refine lv_iconst (v := 3) hx hb dL_law_915 (by decide) ?_
      refine lv_iadd hx hb dL_law_916 ?_
      refine va_sld hx hb hX hbl hbA hS (zq_sc (j := 3) h6 (by decide) hL ex3 rfl) dL_law_917 ?_
      refine lv_aload_n hx hb dL_law_918 rfl (lv_at hl 0 rfl) ?_
      refine lv_iload_n hx hb dL_law_919 rfl (lv_at hl 3 rfl) ?_
      refine lv_iconst (v := 4) hx hb dL_law_920 (by decide) ?_
      refine lv_iadd hx hb dL_law_921 ?_
      refine va_sld hx hb hX hbl hbA hS (zq_sc (j := 4) h6 (by decide) hL ex3 rfl) dL_law_922 ?_
      refine lv_aload_n hx hb dL_law_923 rfl (lv_at hl 0 rfl) ?_
      refine lv_iload_n hx hb dL_law_924 rfl (lv_at hl 3 rfl) ?_
      refine lv_iconst (v := 5) hx hb dL_law_925 (by decide) ?_
      refine lv_iadd hx hb dL_law_926 ?_
      refine va_sld hx hb hX hbl hbA hS (zq_sc (j := 5) h6 (by decide) hL ex3 rfl) dL_law_927 ?_
      refine zVI (ws' := (wdL ax am cy o1 s1 n t r w g u)) (rest := []) C0 hZ fL_x (c_X3_copy (ad := ax) hfx) hP hD hS my_X3_copy kl_L_108 ⟨rfl, rfl⟩ ⟨Nat.le_of_ble_eq_true rfl, Nat.le_of_ble_eq_true rfl⟩ (q0 := 0) (ci := 3) rfl wdL_0 rfl hl.1 rfl (Nat.le_of_ble_eq_true rfl) dL_law_928 ⟨Nat.le_of_ble_eq_true rfl, Nat.le_of_ble_eq_true rfl⟩ (fun H locs hP hD hS => ?_)
      refine lv_aload_n hx hb dL_law_931 rfl (lv_at hl 2 rfl) ?_
      refine lv_aload_n hx hb dL_law_932 rfl (lv_at hl 0 rfl) ?_
      refine lv_iload_n hx hb dL_law_933 rfl (lv_at hl 3 rfl) ?_
      refine lv_iconst (v := 1) hx hb dL_law_934 (by decide) ?_
      refine lv_iadd hx hb dL_law_935 ?_
      refine va_sld hx hb hX hbl hbA hS (zq_sc (j := 1) h6 (by decide) hL ex3 rfl) dL_law_936 ?_
      refine lv_aload_n hx hb dL_law_937 rfl (lv_at hl 0 rfl) ?_
      refine lv_iload_n hx hb dL_law_938 rfl (lv_at hl 3 rfl) ?_
      refine lv_iconst (v := 2) hx hb dL_law_939 (by decide) ?_
      refine lv_iadd hx hb dL_law_940 ?_
      refine va_sld hx hb hX hbl hbA hS (zq_sc (j := 2) h6 (by decide) hL ex3 rfl) dL_law_941 ?_
      refine lv_aload_n hx hb dL_law_942 rfl (lv_at hl 0 rfl) ?_
      refine lv_iload_n hx hb dL_law_943 rfl (lv_at hl 3 rfl) ?_
      refine lv_iconst (v := 3) hx hb dL_law_944 (by decide) ?_
      refine lv_iadd hx hb dL_law_945 ?_
      refine va_sld hx hb hX hbl hbA hS (zq_sc (j := 3) h6 (by decide) hL ex3 rfl) dL_law_946 ?_
      refine lv_aload_n hx hb dL_law_947 rfl (lv_at hl 0 rfl) ?_
      refine lv_iload_n hx hb dL_law_948 rfl (lv_at hl 3 rfl) ?_
      refine lv_iconst (v := 4) hx hb dL_law_949 (by decide) ?_
      refine lv_iadd hx hb dL_law_950 ?_
      refine va_sld hx hb hX hbl hbA hS (zq_sc (j := 4) h6 (by decide) hL ex3 rfl) dL_law_951 ?_
      refine lv_aload_n hx hb dL_law_952 rfl (lv_at hl 0 rfl) ?_
      refine lv_iload_n hx hb dL_law_953 rfl (lv_at hl 3 rfl) ?_
      refine lv_iconst (v := 5) hx hb dL_law_954 (by decide) ?_
      refine lv_iadd hx hb dL_law_955 ?_
      refine va_sld hx hb hX hbl hbA hS (zq_sc (j := 5) h6 (by decide) hL ex3 rfl) dL_law_956 ?_
      refine zVI (ws' := (wdL ax am cy o1 s1 n t r w g1 u)) (rest := [.int r0]) C0 hZ fL_m (c_X4_copy (ad := am) hfm) hP hD hS my_X4_copy kl_L_111 ⟨rfl, rfl⟩ ⟨Nat.le_of_ble_eq_true rfl, Nat.le_of_ble_eq_true rfl⟩ (q0 := 33) (ci := 4) rfl wdL_33 rfl hl.1 rfl (Nat.le_of_ble_eq_true rfl) dL_law_957 ⟨Nat.le_of_ble_eq_true rfl, Nat.le_of_ble_eq_true rfl⟩ (fun H locs hP hD hS => ?_)
      refine lv_icmp_eq (tgt := 1093) hx hb dL_law_960 (by decide) (fun _ => ?_) (fun c2 => absurd rfl c2)
      exact hnext o1 s1 n t r w g1 u hR1 _ _ hP hD hS
    by_cases cs23 : sw = 23
    · refine lv_tableIn (off := 932) (tgt := 965) hx hb dL_law_33 (by rw [cs23]; decide) (by rw [cs23]; decide) (by rw [cs23]; rfl) (by decide) ?_
      obtain ⟨r0, o1, g1, hfx, hfm, hR1⟩ := p_tell hR (xs (Int32.toNatClampNeg (x3 + 1)))
      refine lv_aload_n hx hb dL_law_965 rfl (lv_at hl 1 rfl) ?_
      refine lv_aload_n hx hb dL_law_966 rfl (lv_at hl 0 rfl) ?_
      refine lv_iload_n hx hb dL_law_967 rfl (lv_at hl 3 rfl) ?_
      refine lv_iconst (v := 1) hx hb dL_law_968 (by decide) ?_
      refine lv_iadd hx hb dL_law_969 ?_
      refine va_sld hx hb hX hbl hbA hS (zq_sc (j := 1) h6 (by decide) hL ex3 rfl) dL_law_970 ?_
      refine zVI (ws' := (wdL ax am cy o1 s n t r w g u)) (rest := []) C0 hZ fL_x (c_X3_tell (ad := ax) hfx) hP hD hS my_X3_tell kl_L_112 ⟨rfl, rfl⟩ ⟨Nat.le_of_ble_eq_true rfl, Nat.le_of_ble_eq_true rfl⟩ (q0 := 0) (ci := 3) rfl wdL_0 rfl hl.1 rfl (Nat.le_of_ble_eq_true rfl) dL_law_971 ⟨Nat.le_of_ble_eq_true rfl, Nat.le_of_ble_eq_true rfl⟩ (fun H locs hP hD hS => ?_)
      refine lv_aload_n hx hb dL_law_974 rfl (lv_at hl 2 rfl) ?_
      refine lv_aload_n hx hb dL_law_975 rfl (lv_at hl 0 rfl) ?_
      refine lv_iload_n hx hb dL_law_976 rfl (lv_at hl 3 rfl) ?_
      refine lv_iconst (v := 1) hx hb dL_law_977 (by decide) ?_
      refine lv_iadd hx hb dL_law_978 ?_
      refine va_sld hx hb hX hbl hbA hS (zq_sc (j := 1) h6 (by decide) hL ex3 rfl) dL_law_979 ?_
      refine zVI (ws' := (wdL ax am cy o1 s n t r w g1 u)) (rest := [.int r0]) C0 hZ fL_m (c_X4_tell (ad := am) hfm) hP hD hS my_X4_tell kl_L_115 ⟨rfl, rfl⟩ ⟨Nat.le_of_ble_eq_true rfl, Nat.le_of_ble_eq_true rfl⟩ (q0 := 33) (ci := 4) rfl wdL_33 rfl hl.1 rfl (Nat.le_of_ble_eq_true rfl) dL_law_980 ⟨Nat.le_of_ble_eq_true rfl, Nat.le_of_ble_eq_true rfl⟩ (fun H locs hP hD hS => ?_)
      refine lv_icmp_eq (tgt := 1093) hx hb dL_law_983 (by decide) (fun _ => ?_) (fun c2 => absurd rfl c2)
      exact hnext o1 s n t r w g1 u hR1 _ _ hP hD hS
    by_cases cs24 : sw = 24
    · refine lv_tableIn (off := 955) (tgt := 988) hx hb dL_law_33 (by rw [cs24]; decide) (by rw [cs24]; decide) (by rw [cs24]; rfl) (by decide) ?_
      obtain ⟨r0, o1, g1, hfx, hfm, hR1⟩ := p_switchOn hR (xs (Int32.toNatClampNeg (x3 + 1)))
      refine lv_aload_n hx hb dL_law_988 rfl (lv_at hl 1 rfl) ?_
      refine lv_aload_n hx hb dL_law_989 rfl (lv_at hl 0 rfl) ?_
      refine lv_iload_n hx hb dL_law_990 rfl (lv_at hl 3 rfl) ?_
      refine lv_iconst (v := 1) hx hb dL_law_991 (by decide) ?_
      refine lv_iadd hx hb dL_law_992 ?_
      refine va_sld hx hb hX hbl hbA hS (zq_sc (j := 1) h6 (by decide) hL ex3 rfl) dL_law_993 ?_
      refine zVI (ws' := (wdL ax am cy o1 s n t r w g u)) (rest := []) C0 hZ fL_x (c_X3_switchOn (ad := ax) hfx) hP hD hS my_X3_switchOn kl_L_116 ⟨rfl, rfl⟩ ⟨Nat.le_of_ble_eq_true rfl, Nat.le_of_ble_eq_true rfl⟩ (q0 := 0) (ci := 3) rfl wdL_0 rfl hl.1 rfl (Nat.le_of_ble_eq_true rfl) dL_law_994 ⟨Nat.le_of_ble_eq_true rfl, Nat.le_of_ble_eq_true rfl⟩ (fun H locs hP hD hS => ?_)
      refine lv_aload_n hx hb dL_law_997 rfl (lv_at hl 2 rfl) ?_
      refine lv_aload_n hx hb dL_law_998 rfl (lv_at hl 0 rfl) ?_
      refine lv_iload_n hx hb dL_law_999 rfl (lv_at hl 3 rfl) ?_
      refine lv_iconst (v := 1) hx hb dL_law_1000 (by decide) ?_
      refine lv_iadd hx hb dL_law_1001 ?_
      refine va_sld hx hb hX hbl hbA hS (zq_sc (j := 1) h6 (by decide) hL ex3 rfl) dL_law_1002 ?_
      refine zVI (ws' := (wdL ax am cy o1 s n t r w g1 u)) (rest := [.int r0]) C0 hZ fL_m (c_X4_switchOn (ad := am) hfm) hP hD hS my_X4_switchOn kl_L_119 ⟨rfl, rfl⟩ ⟨Nat.le_of_ble_eq_true rfl, Nat.le_of_ble_eq_true rfl⟩ (q0 := 33) (ci := 4) rfl wdL_33 rfl hl.1 rfl (Nat.le_of_ble_eq_true rfl) dL_law_1003 ⟨Nat.le_of_ble_eq_true rfl, Nat.le_of_ble_eq_true rfl⟩ (fun H locs hP hD hS => ?_)
      refine lv_icmp_eq (tgt := 1093) hx hb dL_law_1006 (by decide) (fun _ => ?_) (fun c2 => absurd rfl c2)
      exact hnext o1 s n t r w g1 u hR1 _ _ hP hD hS
    by_cases cs25 : sw = 25
    · refine lv_tableIn (off := 978) (tgt := 1011) hx hb dL_law_33 (by rw [cs25]; decide) (by rw [cs25]; decide) (by rw [cs25]; rfl) (by decide) ?_
      obtain ⟨r0, o1, g1, hfx, hfm, hR1⟩ := p_as hR (xs (Int32.toNatClampNeg (x3 + 1))) (xs (Int32.toNatClampNeg (x3 + 2)))
      refine lv_aload_n hx hb dL_law_1011 rfl (lv_at hl 1 rfl) ?_
      refine lv_aload_n hx hb dL_law_1012 rfl (lv_at hl 0 rfl) ?_
      refine lv_iload_n hx hb dL_law_1013 rfl (lv_at hl 3 rfl) ?_
      refine lv_iconst (v := 1) hx hb dL_law_1014 (by decide) ?_
      refine lv_iadd hx hb dL_law_1015 ?_
      refine va_sld hx hb hX hbl hbA hS (zq_sc (j := 1) h6 (by decide) hL ex3 rfl) dL_law_1016 ?_
      refine lv_aload_n hx hb dL_law_1017 rfl (lv_at hl 0 rfl) ?_
      refine lv_iload_n hx hb dL_law_1018 rfl (lv_at hl 3 rfl) ?_
      refine lv_iconst (v := 2) hx hb dL_law_1019 (by decide) ?_
      refine lv_iadd hx hb dL_law_1020 ?_
      refine va_sld hx hb hX hbl hbA hS (zq_sc (j := 2) h6 (by decide) hL ex3 rfl) dL_law_1021 ?_
      refine zVI (ws' := (wdL ax am cy o1 s n t r w g u)) (rest := []) C0 hZ fL_x (c_X3_as (ad := ax) hfx) hP hD hS my_X3_as kl_L_120 ⟨rfl, rfl⟩ ⟨Nat.le_of_ble_eq_true rfl, Nat.le_of_ble_eq_true rfl⟩ (q0 := 0) (ci := 3) rfl wdL_0 rfl hl.1 rfl (Nat.le_of_ble_eq_true rfl) dL_law_1022 ⟨Nat.le_of_ble_eq_true rfl, Nat.le_of_ble_eq_true rfl⟩ (fun H locs hP hD hS => ?_)
      refine lv_aload_n hx hb dL_law_1025 rfl (lv_at hl 2 rfl) ?_
      refine lv_aload_n hx hb dL_law_1026 rfl (lv_at hl 0 rfl) ?_
      refine lv_iload_n hx hb dL_law_1027 rfl (lv_at hl 3 rfl) ?_
      refine lv_iconst (v := 1) hx hb dL_law_1028 (by decide) ?_
      refine lv_iadd hx hb dL_law_1029 ?_
      refine va_sld hx hb hX hbl hbA hS (zq_sc (j := 1) h6 (by decide) hL ex3 rfl) dL_law_1030 ?_
      refine lv_aload_n hx hb dL_law_1031 rfl (lv_at hl 0 rfl) ?_
      refine lv_iload_n hx hb dL_law_1032 rfl (lv_at hl 3 rfl) ?_
      refine lv_iconst (v := 2) hx hb dL_law_1033 (by decide) ?_
      refine lv_iadd hx hb dL_law_1034 ?_
      refine va_sld hx hb hX hbl hbA hS (zq_sc (j := 2) h6 (by decide) hL ex3 rfl) dL_law_1035 ?_
      refine zVI (ws' := (wdL ax am cy o1 s n t r w g1 u)) (rest := [.int r0]) C0 hZ fL_m (c_X4_as (ad := am) hfm) hP hD hS my_X4_as kl_L_123 ⟨rfl, rfl⟩ ⟨Nat.le_of_ble_eq_true rfl, Nat.le_of_ble_eq_true rfl⟩ (q0 := 33) (ci := 4) rfl wdL_33 rfl hl.1 rfl (Nat.le_of_ble_eq_true rfl) dL_law_1036 ⟨Nat.le_of_ble_eq_true rfl, Nat.le_of_ble_eq_true rfl⟩ (fun H locs hP hD hS => ?_)
      refine lv_icmp_eq (tgt := 1093) hx hb dL_law_1039 (by decide) (fun _ => ?_) (fun c2 => absurd rfl c2)
      exact hnext o1 s n t r w g1 u hR1 _ _ hP hD hS
    by_cases cs26 : sw = 26
    · refine lv_tableIn (off := 1011) (tgt := 1044) hx hb dL_law_33 (by rw [cs26]; decide) (by rw [cs26]; decide) (by rw [cs26]; rfl) (by decide) ?_
      obtain ⟨r0, hfx, hfm, hR1⟩ := p_trace hR
      refine lv_aload_n hx hb dL_law_1044 rfl (lv_at hl 1 rfl) ?_
      refine zVI (ws' := (wdL ax am cy o s n t r w g u)) (rest := []) C0 hZ fL_x (c_X3_trace (ad := ax) hfx) hP hD hS my_X3_trace kl_L_124 ⟨rfl, rfl⟩ ⟨Nat.le_of_ble_eq_true rfl, Nat.le_of_ble_eq_true rfl⟩ (q0 := 0) (ci := 3) rfl wdL_0 rfl hl.1 rfl (Nat.le_of_ble_eq_true rfl) dL_law_1045 ⟨Nat.le_of_ble_eq_true rfl, Nat.le_of_ble_eq_true rfl⟩ (fun H locs hP hD hS => ?_)
      refine lv_aload_n hx hb dL_law_1048 rfl (lv_at hl 2 rfl) ?_
      refine zVI (ws' := (wdL ax am cy o s n t r w g u)) (rest := [.int r0]) C0 hZ fL_m (c_X4_trace (ad := am) hfm) hP hD hS my_X4_trace kl_L_127 ⟨rfl, rfl⟩ ⟨Nat.le_of_ble_eq_true rfl, Nat.le_of_ble_eq_true rfl⟩ (q0 := 33) (ci := 4) rfl wdL_33 rfl hl.1 rfl (Nat.le_of_ble_eq_true rfl) dL_law_1049 ⟨Nat.le_of_ble_eq_true rfl, Nat.le_of_ble_eq_true rfl⟩ (fun H locs hP hD hS => ?_)
      refine lv_icmp_eq (tgt := 1093) hx hb dL_law_1052 (by decide) (fun _ => ?_) (fun c2 => absurd rfl c2)
      exact hnext o s n t r w g u hR1 _ _ hP hD hS
    by_cases cs27 : sw = 27
    · refine lv_tableIn (off := 1024) (tgt := 1057) hx hb dL_law_33 (by rw [cs27]; decide) (by rw [cs27]; decide) (by rw [cs27]; rfl) (by decide) ?_
      obtain ⟨r0, hfx, hfm, hR1⟩ := p_fault hR
      refine lv_aload_n hx hb dL_law_1057 rfl (lv_at hl 1 rfl) ?_
      refine zVI (ws' := (wdL ax am cy o s n t r w g u)) (rest := []) C0 hZ fL_x (c_X3_fault (ad := ax) hfx) hP hD hS my_X3_fault kl_L_128 ⟨rfl, rfl⟩ ⟨Nat.le_of_ble_eq_true rfl, Nat.le_of_ble_eq_true rfl⟩ (q0 := 0) (ci := 3) rfl wdL_0 rfl hl.1 rfl (Nat.le_of_ble_eq_true rfl) dL_law_1058 ⟨Nat.le_of_ble_eq_true rfl, Nat.le_of_ble_eq_true rfl⟩ (fun H locs hP hD hS => ?_)
      refine lv_aload_n hx hb dL_law_1061 rfl (lv_at hl 2 rfl) ?_
      refine zVI (ws' := (wdL ax am cy o s n t r w g u)) (rest := [.int r0]) C0 hZ fL_m (c_X4_fault (ad := am) hfm) hP hD hS my_X4_fault kl_L_131 ⟨rfl, rfl⟩ ⟨Nat.le_of_ble_eq_true rfl, Nat.le_of_ble_eq_true rfl⟩ (q0 := 33) (ci := 4) rfl wdL_33 rfl hl.1 rfl (Nat.le_of_ble_eq_true rfl) dL_law_1062 ⟨Nat.le_of_ble_eq_true rfl, Nat.le_of_ble_eq_true rfl⟩ (fun H locs hP hD hS => ?_)
      refine lv_icmp_eq (tgt := 1093) hx hb dL_law_1065 (by decide) (fun _ => ?_) (fun c2 => absurd rfl c2)
      exact hnext o s n t r w g u hR1 _ _ hP hD hS
    by_cases cs28 : sw = 28
    · refine lv_tableIn (off := 1037) (tgt := 1070) hx hb dL_law_33 (by rw [cs28]; decide) (by rw [cs28]; decide) (by rw [cs28]; rfl) (by decide) ?_
      obtain ⟨r0, hfx, hfm, hR1⟩ := p_many hR (xs (Int32.toNatClampNeg (x3 + 1)))
      refine lv_aload_n hx hb dL_law_1070 rfl (lv_at hl 1 rfl) ?_
      refine lv_aload_n hx hb dL_law_1071 rfl (lv_at hl 0 rfl) ?_
      refine lv_iload_n hx hb dL_law_1072 rfl (lv_at hl 3 rfl) ?_
      refine lv_iconst (v := 1) hx hb dL_law_1073 (by decide) ?_
      refine lv_iadd hx hb dL_law_1074 ?_
      refine va_sld hx hb hX hbl hbA hS (zq_sc (j := 1) h6 (by decide) hL ex3 rfl) dL_law_1075 ?_
      refine zVI (ws' := (wdL ax am cy o s n t r w g u)) (rest := []) C0 hZ fL_x (c_X3_many (ad := ax) hfx) hP hD hS my_X3_many kl_L_132 ⟨rfl, rfl⟩ ⟨Nat.le_of_ble_eq_true rfl, Nat.le_of_ble_eq_true rfl⟩ (q0 := 0) (ci := 3) rfl wdL_0 rfl hl.1 rfl (Nat.le_of_ble_eq_true rfl) dL_law_1076 ⟨Nat.le_of_ble_eq_true rfl, Nat.le_of_ble_eq_true rfl⟩ (fun H locs hP hD hS => ?_)
      refine lv_aload_n hx hb dL_law_1079 rfl (lv_at hl 2 rfl) ?_
      refine lv_aload_n hx hb dL_law_1080 rfl (lv_at hl 0 rfl) ?_
      refine lv_iload_n hx hb dL_law_1081 rfl (lv_at hl 3 rfl) ?_
      refine lv_iconst (v := 1) hx hb dL_law_1082 (by decide) ?_
      refine lv_iadd hx hb dL_law_1083 ?_
      refine va_sld hx hb hX hbl hbA hS (zq_sc (j := 1) h6 (by decide) hL ex3 rfl) dL_law_1084 ?_
      refine zVI (ws' := (wdL ax am cy o s n t r w g u)) (rest := [.int r0]) C0 hZ fL_m (c_X4_many (ad := am) hfm) hP hD hS my_X4_many kl_L_135 ⟨rfl, rfl⟩ ⟨Nat.le_of_ble_eq_true rfl, Nat.le_of_ble_eq_true rfl⟩ (q0 := 33) (ci := 4) rfl wdL_33 rfl hl.1 rfl (Nat.le_of_ble_eq_true rfl) dL_law_1085 ⟨Nat.le_of_ble_eq_true rfl, Nat.le_of_ble_eq_true rfl⟩ (fun H locs hP hD hS => ?_)
      refine lv_icmp_eq (tgt := 1093) hx hb dL_law_1088 (by decide) (fun _ => ?_) (fun c2 => absurd rfl c2)
      exact hnext o s n t r w g u hR1 _ _ hP hD hS
    refine lv_tableOut (tgt := 1093) hx hb dL_law_33 (by have := lv_neT cs0 (show (0 : Int32).toInt = 0 by decide); have := lv_neT cs1 (show (1 : Int32).toInt = 1 by decide); have := lv_neT cs2 (show (2 : Int32).toInt = 2 by decide); have := lv_neT cs3 (show (3 : Int32).toInt = 3 by decide); have := lv_neT cs4 (show (4 : Int32).toInt = 4 by decide); have := lv_neT cs5 (show (5 : Int32).toInt = 5 by decide); have := lv_neT cs6 (show (6 : Int32).toInt = 6 by decide); have := lv_neT cs7 (show (7 : Int32).toInt = 7 by decide); have := lv_neT cs8 (show (8 : Int32).toInt = 8 by decide); have := lv_neT cs9 (show (9 : Int32).toInt = 9 by decide); have := lv_neT cs10 (show (10 : Int32).toInt = 10 by decide); have := lv_neT cs11 (show (11 : Int32).toInt = 11 by decide); have := lv_neT cs12 (show (12 : Int32).toInt = 12 by decide); have := lv_neT cs13 (show (13 : Int32).toInt = 13 by decide); have := lv_neT cs14 (show (14 : Int32).toInt = 14 by decide); have := lv_neT cs15 (show (15 : Int32).toInt = 15 by decide); have := lv_neT cs16 (show (16 : Int32).toInt = 16 by decide); have := lv_neT cs17 (show (17 : Int32).toInt = 17 by decide); have := lv_neT cs18 (show (18 : Int32).toInt = 18 by decide); have := lv_neT cs19 (show (19 : Int32).toInt = 19 by decide); have := lv_neT cs20 (show (20 : Int32).toInt = 20 by decide); have := lv_neT cs21 (show (21 : Int32).toInt = 21 by decide); have := lv_neT cs22 (show (22 : Int32).toInt = 22 by decide); have := lv_neT cs23 (show (23 : Int32).toInt = 23 by decide); have := lv_neT cs24 (show (24 : Int32).toInt = 24 by decide); have := lv_neT cs25 (show (25 : Int32).toInt = 25 by decide); have := lv_neT cs26 (show (26 : Int32).toInt = 26 by decide); have := lv_neT cs27 (show (27 : Int32).toInt = 27 by decide); have := lv_neT cs28 (show (28 : Int32).toInt = 28 by decide); omega) (by decide) ?_
    exact hnext o s n t r w g u hR _ _ hP hD hS
set_option maxHeartbeats 16000000 in
set_option maxRecDepth 100000 in
theorem whole_start {p : Program} {e : Env} {s : State} {m : MethodId} {below : List Frame} {meth : Method} {c : Code} (l : Launch) (hflags : l.flags = flags0) {b L : Nat} {xs : Nat → Int32} (hL : L ≤ 3072) (C0 : lw_At p s m meth c b L xs) : W p l e room_1 s m #[Value.ref b] below meth c s.heap [] 0 0 (lw_Z below #[Value.ref b] s) (entryFrame m ([Value.ref b] : List Value).toArray 4) := by
  obtain ⟨hx, hb, hr, hml, hown, hts, hX, hbl, hlocks, hgv⟩ := id C0
  have hA : ∀ q : Nat, s.heap.size ≤ q → (fun q : Nat => s.heap.size ≤ q) q := fun _ h => h
  have hZ : ∀ w ∈ zB, w ∈ lw_tbl := fun w h => (List.mem_filter.mp h).1
  obtain ⟨c0, iS0, hKn0⟩ := u_known (C := RX0) (T := TX0) (N := 4) (n := 4) hts (fun w h => hZ _ (inB_X0 w h)) (hts _ (hZ _ kt_X0))
  obtain ⟨c1, iS1, hKn1⟩ := u_known (C := RX1) (T := TX1) (N := 4) (n := 4) hts (fun w h => hZ _ (inB_X1 w h)) (hts _ (hZ _ kt_X1))
  obtain ⟨c2, iS2, hKn2⟩ := u_known (C := RX2) (T := TX2) (N := 11) (n := 11) hts (fun w h => hZ _ (inB_X2 w h)) (hts _ (hZ _ kt_X2))
  obtain ⟨c3, iS3, hKn3⟩ := u_known (C := RX3) (T := TX3) (N := 7) (n := 7) hts (fun w h => hZ _ (inB_X3 w h)) (hts _ (hZ _ kt_X3))
  obtain ⟨c4, iS4, hKn4⟩ := u_known (C := RX4) (T := TX4) (N := 31) (n := 31) hts (fun w h => hZ _ (inB_X4 w h)) (hts _ (hZ _ kt_X4))
  obtain ⟨D, hKc⟩ : ∃ D : va_G, ∀ (k : Nat) (q : vw_C), vwCl[k]? = some q → u_Kn s q.1 q.2.1 q.2.2 (D.1 k) (D.2 k) := by
    refine ⟨(fun k => if k = 0 then c0 else if k = 1 then c1 else if k = 2 then c2 else if k = 3 then c3 else c4, fun k => if k = 0 then iS0 else if k = 1 then iS1 else if k = 2 then iS2 else if k = 3 then iS3 else iS4), ?_⟩
    intro k q hq
    match k, hq with
    | 0, hq => cases hq; exact hKn0
    | 1, hq => cases hq; exact hKn1
    | 2, hq => cases hq; exact hKn2
    | 3, hq => cases hq; exact hKn3
    | 4, hq => cases hq; exact hKn4
    | k + 5, hq => simp [vwCl] at hq
  have hO : va_AO RX1 s := va_AO.of (hts (.arrayOver (.object RX1)) (List.mem_of_getElem? (i := 65) (by decide +kernel)))
  obtain ⟨cy, hK⟩ : ∃ cy : Nat → ClassId, va_K D vwCl (zT cy) s := by
    obtain ⟨cA, kA, cpA, fA, hkA, hkdA⟩ := Cond.arrayClass_spec (hts _ (hZ _ ka_int))
    obtain ⟨cB, kB, cpB, fB, hkB, hkdB⟩ := Cond.arrayClass_spec (hts _ (hZ _ ka_boolean))
    obtain ⟨cC, kC, cpC, fC, hkC, hkdC⟩ := Cond.arrayClass_spec (hts _ (hZ _ ka_long))
    obtain ⟨cpD, cD, kD, gD, -, hkD, hkdD, fD⟩ := Cond.arrayOver_spec hO
    refine ⟨fun k => if k = 0 then cA else if k = 1 then cB else if k = 2 then cC else cD, hKc, ?_⟩
    intro k q hq
    match k, hq with
    | 0, hq => cases hq; exact ⟨fun n z => ⟨fun k h => (by cases h), kA, hkA, cpA, hkdA⟩, fA⟩
    | 1, hq => cases hq; exact ⟨fun n z => ⟨fun k h => (by cases h), kB, hkB, cpB, hkdB⟩, fB⟩
    | 2, hq => cases hq; exact ⟨fun n z => ⟨fun k h => (by cases h), kC, hkC, cpC, hkdC⟩, fC⟩
    | 3, hq => cases hq; exact ⟨fun n z => ⟨fun k h => (by cases h), kD, hkD, cpD, hkdD⟩, kD, cpD, hkD, hkdD, gD, fD⟩
    | k + 4, hq => simp [zT] at hq
  have hN : zN s := ⟨va_Nw.of rfl (hts (.methodLinkNest RX3 19 yX2_init RX3) (List.mem_of_getElem? (i := 68) (by decide +kernel))), va_Nw.of rfl (hts (.methodLinkNest RX3 29 yX0_init RX3) (List.mem_of_getElem? (i := 121) (by decide +kernel))), va_Nw.of rfl (hts (.methodLinkNest RX3 45 yX1_init RX3) (List.mem_of_getElem? (i := 140) (by decide +kernel))), va_Nw.of rfl (hts (.methodLinkNest RX2 75 yX3_isCut RX3) (List.mem_of_getElem? (i := 218) (by decide +kernel))), va_Nw.of rfl (hts (.methodLinkNest RX2 86 yX3_isLevel RX3) (List.mem_of_getElem? (i := 240) (by decide +kernel))), va_Nw.of rfl (hts (.methodLinkNest RX2 107 yX3_lightBy RX3) (List.mem_of_getElem? (i := 278) (by decide +kernel))), va_Nw.of rfl (hts (.methodLinkNest RX2 113 yX3_hasBit RX3) (List.mem_of_getElem? (i := 286) (by decide +kernel))), va_Nw.of rfl (hts (.methodLinkNest RX2 130 yX3_darkestStretch RX3) (List.mem_of_getElem? (i := 381) (by decide +kernel)))⟩
  have hS : va_S (fun q : Nat => s.heap.size ≤ q) s.heap s.heap [] := va_S.rf
  have hP : va_P D vwCl [] s.heap := fun k q h => by simp at h
  have hD : va_D (fun q : Nat => s.heap.size ≤ q) [] := ⟨fun i j p q h => by simp at h, fun k q h => by simp at h⟩
  have C1 : zCy p s m #[Value.ref b] c code 4 RL lw_tbl D cy (fun q : Nat => s.heap.size ≤ q) := ⟨⟨hx, hb, hml, hown, hts⟩, hK, hA, hN⟩
  have hl := lv_entry ([.ref b]) (n := 4) (Nat.le_of_ble_eq_true rfl)
  rw [lg_entry_eq]
  generalize (lg_sl ([.ref b]) ++ List.replicate (4 - (lg_sl ([.ref b])).length) Slot.unset).toArray = ls at hl ⊢
  have hl : lv_has ls 4 [(0, .ref b)] := hl
  refine va_new (ci := 3) (fs := [.null, .null, .null, .null, .null, .int 0, .int 0]) (C := RX3) (T := TX3) (N := 7) hx hb hts (fun w h => hZ _ (inB_X3 w h)) tyX3 tyX3_ok hown (hts _ (hZ _ kx_L_7)) (hts _ (hZ _ kt_X3)) (hts _ (hZ _ ku_X3)) hK hP hD hS hA rfl (by intro j hj; match j, hj with | 0, _ => exact rfl | 1, _ => exact rfl | 2, _ => exact rfl | 3, _ => exact rfl | 4, _ => exact rfl | 5, _ => exact rfl | 6, _ => exact rfl | j + 7, hj => exact absurd hj (by omega)) (Nat.le_of_ble_eq_true rfl) (Nat.le_of_ble_eq_true rfl) dL_law_0 (fun q1 H hP hD hS => ?_)
  have hP : va_P D vwCl [(q1, .inr (3, [.null, .null, .null, .null, .null, .int 0, .int 0]))] H := hP
  have hD : va_D (fun q : Nat => s.heap.size ≤ q) [(q1, .inr (3, [.null, .null, .null, .null, .null, .int 0, .int 0]))] := hD
  refine lv_dup hx hb dL_law_3 rfl ?_
  refine zKI (rest := [.ref q1]) (wr := []) C1 hZ hO (c_X3_init (b := q1)) mi_X3 ku_X3 rfl kl_L_9 ⟨rfl, rfl⟩ ⟨Nat.le_of_ble_eq_true rfl, Nat.le_of_ble_eq_true rfl⟩ hP hD hS [0] [] rfl rfl (by decide) (by decide) (by decide) hl.1 (Nat.le_of_ble_eq_true rfl) dL_law_4 ⟨Nat.le_of_ble_eq_true rfl, Nat.le_of_ble_eq_true rfl⟩ (fun ax H locs hax hP hD hS => ?_)
  rw [← hax]
  refine lv_astore_n (lv' := [(1, .ref (ax 0)), (0, .ref b)]) hx hb dL_law_7 rfl hl (by decide) rfl (fun ls hl => ?_)
  refine va_new (ci := 4) (fs := [.int 0, .int 0, .int 0, .int 0, .null, .null, .null, .null, .null, .null, .int 0, .int 0, .int 0, .int 0, .null, .null, .null, .null, .null, .null, .null, .int 0, .null, .null, .null, .null, .null, .null, .null, .null, .int 0]) (C := RX4) (T := TX4) (N := 31) hx hb hts (fun w h => hZ _ (inB_X4 w h)) tyX4 tyX4_ok hown (hts _ (hZ _ kx_L_10)) (hts _ (hZ _ kt_X4)) (hts _ (hZ _ ku_X4)) hK hP hD hS hA rfl (by intro j hj; match j, hj with | 0, _ => exact rfl | 1, _ => exact rfl | 2, _ => exact rfl | 3, _ => exact rfl | 4, _ => exact rfl | 5, _ => exact rfl | 6, _ => exact rfl | 7, _ => exact rfl | 8, _ => exact rfl | 9, _ => exact rfl | 10, _ => exact rfl | 11, _ => exact rfl | 12, _ => exact rfl | 13, _ => exact rfl | 14, _ => exact rfl | 15, _ => exact rfl | 16, _ => exact rfl | 17, _ => exact rfl | 18, _ => exact rfl | 19, _ => exact rfl | 20, _ => exact rfl | 21, _ => exact rfl | 22, _ => exact rfl | 23, _ => exact rfl | 24, _ => exact rfl | 25, _ => exact rfl | 26, _ => exact rfl | 27, _ => exact rfl | 28, _ => exact rfl | 29, _ => exact rfl | 30, _ => exact rfl | j + 31, hj => exact absurd hj (by omega)) (Nat.le_of_ble_eq_true rfl) (Nat.le_of_ble_eq_true rfl) dL_law_8 (fun q2 H hP hD hS => ?_)
  refine lv_dup hx hb dL_law_11 rfl ?_
  refine zKI (rest := [.ref q2]) (wr := (wdX ax cy (fun _ _ => 0) (fun _ _ _ => 0) (fun _ _ => 0) (fun _ _ => 0) (fun _ _ => 0) (fun _ => 0))) C1 hZ hO (c_X4_init (b := q2)) mi_X4 ku_X4 rfl kl_L_12 ⟨rfl, rfl⟩ ⟨Nat.le_of_ble_eq_true rfl, Nat.le_of_ble_eq_true rfl⟩ hP hD hS [33] [0, 1, 2, 3, 4, 5, 6, 7, 8, 9, 10, 11, 12, 13, 14, 15, 16, 17, 18, 19, 20, 21, 22, 23, 24, 25, 26, 27, 28, 29, 30, 31, 32] rfl rfl (by decide) (by decide) (by decide) hl.1 (Nat.le_of_ble_eq_true rfl) dL_law_12 ⟨Nat.le_of_ble_eq_true rfl, Nat.le_of_ble_eq_true rfl⟩ (fun am H locs ham hP hD hS => ?_)
  rw [← ham]
  refine lv_astore_n (lv' := [(2, .ref (am 0)), (1, .ref (ax 0)), (0, .ref b)]) hx hb dL_law_15 rfl hl (by decide) rfl (fun ls hl => ?_)
  refine lv_iconst (v := 0) hx hb dL_law_16 (by decide) ?_
  refine lv_istore_n (lv' := [(3, .int 0), (2, .ref (am 0)), (1, .ref (ax 0)), (0, .ref b)]) hx hb dL_law_17 rfl hl (by decide) rfl (fun ls hl => ?_)
  exact law_loop hL C0 C1 hZ (L + 1) 0 (fun _ _ => 0) (fun _ _ _ => 0) (fun _ _ => 0) (fun _ _ => 0) (fun _ _ => 0) (fun _ => 0) zM0 (fun _ => 0) 0 (by omega) (by omega) nI_0.symm zRel_0 _ _ ls hP hD hS (lv_sub hl [3, 2, 1, 0] rfl)
