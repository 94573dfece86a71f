def f_X4_in  (x0 : Int64) (x2 : Int64) (x4 : Int64) : Option (Int32) :=
  if (lg_cmp x0 x2) < 0 then (
  some 0) else (
  if 0 < (lg_cmp x0 x4) then (
  some 0) else (
  some 1))
set_option maxHeartbeats 4000000 in
set_option maxRecDepth 100000 in
theorem c_X4_in {l : Launch} {D : va_G} {cy : Nat → ClassId}   {x0 : Int64} {x2 : Int64} {x4 : Int64} {r0 : Int32} (hf : f_X4_in x0 x2 x4 = some r0) : zMI l yX4_in (zW yX4_in cX4_in 6 (some .boolean)) { frames := 0, cells := 0, slots := 0, locals := 0 } D cy [.long x0, .long x2, .long x4] [] r0 [] := by
  unfold f_X4_in at hf
  refine zEI (ty := .boolean) (by decide) (Nat.le_of_ble_eq_true rfl) ?_
  intro p e s9 m9 below meth c A Q C0 hret ls hl hP hD
  have hl : lv_has ls 6 [(0, .long x0), (2, .long x2), (4, .long x4)] := hl
  have hS : va_S A s9.heap s9.heap [] := va_S.rf
  obtain ⟨hx, hb, hml, hown, hts⟩ := id C0.1
  refine lv_lload_n hx hb dX4_in_0 rfl (lv_at hl 0 rfl) ?_
  refine lv_lload_n hx hb dX4_in_1 rfl (lv_at hl 1 rfl) ?_
  refine W.lcmp hx hb dX4_in_2 ?_
  refine lv_if_lt (tgt := 17) hx hb dX4_in_3 (by decide) (fun c1 => ?_) (fun c1 => ?_)
  · have hf := it_t c1 hf
    refine lv_iconst (v := 0) hx hb dX4_in_17 (by decide) ?_
    obtain rfl := Option.some.inj hf
    exact hret _ _ _ _ rfl dX4_in_18 hP hD hS
  · have hf := it_f c1 hf
    refine lv_lload_n hx hb dX4_in_6 rfl (lv_at hl 0 rfl) ?_
    refine lv_lload hx hb dX4_in_7 (lv_at hl 2 rfl) ?_
    refine W.lcmp hx hb dX4_in_9 ?_
    refine lv_if_gt (tgt := 17) hx hb dX4_in_10 (by decide) (fun c2 => ?_) (fun c2 => ?_)
    · have hf := it_t c2 hf
      refine lv_iconst (v := 0) hx hb dX4_in_17 (by decide) ?_
      obtain rfl := Option.some.inj hf
      exact hret _ _ _ _ rfl dX4_in_18 hP hD hS
    · have hf := it_f c2 hf
      refine lv_iconst (v := 1) hx hb dX4_in_13 (by decide) ?_
      refine lv_goto (tgt := 18) hx hb dX4_in_14 (by decide) ?_
      obtain rfl := Option.some.inj hf
      exact hret _ _ _ _ rfl dX4_in_18 hP hD hS

def f_X4_lost   : Option (Int64) :=
  some (-9223372036854775808)
set_option maxHeartbeats 4000000 in
set_option maxRecDepth 100000 in
theorem c_X4_lost {l : Launch} {D : va_G} {cy : Nat → ClassId}    {r0 : Int64} (hf : f_X4_lost = some r0) : zML l yX4_lost (zW yX4_lost cX4_lost 0 (some .long)) { frames := 0, cells := 0, slots := 0, locals := 0 } D cy [] [] r0 [] := by
  unfold f_X4_lost at hf
  refine zEL (by decide) (Nat.le_of_ble_eq_true rfl) ?_
  intro p e s9 m9 below meth c A Q C0 hret ls hl hP hD
  have hl : lv_has ls 0 [] := hl
  have hS : va_S A s9.heap s9.heap [] := va_S.rf
  obtain ⟨hx, hb, hml, hown, hts⟩ := id C0.1
  refine lv_ldc2 hx hb hown (hts _ kc_X4_74) dX4_lost_0 ?_
  obtain rfl := Option.some.inj hf
  exact hret _ _ _ _ dX4_lost_3 hP hD hS

def f_X4_bits_L4  : Nat → Int32 → Int32 → Option (Int32)
  | 0, _, _ => none
  | q9 + 1, x1, x2 =>
  if x2 ≤ 0 then (
  some x1) else (
  f_X4_bits_L4 q9 (x1 + (x2 &&& 1)) (x2 >>> (1 &&& 31)))
def f_X4_bits  (x0 : Int32) : Option (Int32) :=
  zq_b1 (f_X4_bits_L4 100 0 x0) (fun y3 =>
  some y3)
set_option maxHeartbeats 4000000 in
set_option maxRecDepth 100000 in
theorem w_X4_bits_L4 {l : Launch} {p : Program} {e : Env} {s9 : State} {m9 : MethodId} {ag : Array Value} {below : List Frame} {meth : Method} {c : Code} {A : Nat → Prop} {Q : State → Prop} {D : va_G} {cy : Nat → ClassId}   (C0 : zCx p s9 m9 ag c cX4_bits 3 RX4 D cy A)  {o1 : Int32} (e0 : ∀ (H : Heap) (locs : List Loc) (ls : Array Slot), va_P D vwCl [] H → va_D A [] → va_S A s9.heap H locs → lv_has ls 3 [(1, .int o1)] → W p l e { frames := 0, cells := 0, slots := 0, locals := 0 } s9 m9 ag below meth c H locs 0 0 Q (F0 m9 21 ls [])) : ∀ (q9 : Nat) (x1 : Int32) (x2 : Int32), f_X4_bits_L4 q9 x1 x2 = some o1 → ∀ (H : Heap) (locs : List Loc) (ls : Array Slot), va_P D vwCl [] H → va_D A [] → va_S A s9.heap H locs → lv_has ls 3 [(1, .int x1), (2, .int x2)] → W p l e { frames := 0, cells := 0, slots := 0, locals := 0 } s9 m9 ag below meth c H locs 0 0 Q (F0 m9 4 ls []) := by
  obtain ⟨hx, hb, hml, hown, hts⟩ := id C0.1
  intro q9
  induction q9 with
  | zero =>
    intro x1 x2 hf
    rw [f_X4_bits_L4] at hf
    cases hf
  | succ q9 ih =>
    intro x1 x2 hf H locs ls hP hD hS hl
    rw [f_X4_bits_L4] at hf
    refine lv_iload_n hx hb dX4_bits_4 rfl (lv_at hl 1 rfl) ?_
    refine lv_if_le (tgt := 21) hx hb dX4_bits_5 (by decide) (fun c1 => ?_) (fun c1 => ?_)
    · have hf := it_t c1 hf
      obtain rfl := Option.some.inj hf
      exact e0 _ _ _ hP hD hS (lv_sub hl [0] rfl)
    · have hf := it_f c1 hf
      refine lv_iload_n hx hb dX4_bits_8 rfl (lv_at hl 0 rfl) ?_
      refine lv_iload_n hx hb dX4_bits_9 rfl (lv_at hl 1 rfl) ?_
      refine lv_iconst (v := 1) hx hb dX4_bits_10 (by decide) ?_
      refine lv_iand hx hb dX4_bits_11 ?_
      refine lv_iadd hx hb dX4_bits_12 ?_
      refine lv_istore_n (lv' := [(1, .int (x1 + (x2 &&& 1))), (2, .int x2)]) hx hb dX4_bits_13 rfl hl (by decide) rfl (fun ls hl => ?_)
      refine lv_iload_n hx hb dX4_bits_14 rfl (lv_at hl 1 rfl) ?_
      refine lv_iconst (v := 1) hx hb dX4_bits_15 (by decide) ?_
      refine lv_ishr hx hb dX4_bits_16 ?_
      refine lv_istore_n (lv' := [(2, .int (x2 >>> (1 &&& 31))), (1, .int (x1 + (x2 &&& 1)))]) hx hb dX4_bits_17 rfl hl (by decide) rfl (fun ls hl => ?_)
      refine lv_goto (tgt := 4) hx hb dX4_bits_18 (by decide) ?_
      exact ih (x1 + (x2 &&& 1)) (x2 >>> (1 &&& 31)) hf _ _ _ hP hD hS (lv_sub hl [1, 0] rfl)
set_option maxHeartbeats 4000000 in
set_option maxRecDepth 100000 in
theorem c_X4_bits {l : Launch} {D : va_G} {cy : Nat → ClassId}   {x0 : Int32} {r0 : Int32} (hf : f_X4_bits x0 = some r0) : zMI l yX4_bits (zW yX4_bits cX4_bits 3 (some .int)) { frames := 0, cells := 0, slots := 0, locals := 0 } D cy [.int x0] [] r0 [] := by
  unfold f_X4_bits at hf
  refine zEI (ty := .int) (by decide) (Nat.le_of_ble_eq_true rfl) ?_
  intro p e s9 m9 below meth c A Q C0 hret ls hl hP hD
  have hl : lv_has ls 3 [(0, .int x0)] := hl
  have hS : va_S A s9.heap s9.heap [] := va_S.rf
  obtain ⟨hx, hb, hml, hown, hts⟩ := id C0.1
  refine lv_iconst (v := 0) hx hb dX4_bits_0 (by decide) ?_
  refine lv_istore_n (lv' := [(1, .int 0), (0, .int x0)]) hx hb dX4_bits_1 rfl hl (by decide) rfl (fun ls hl => ?_)
  refine lv_iload_n hx hb dX4_bits_2 rfl (lv_at hl 1 rfl) ?_
  refine lv_istore_n (lv' := [(2, .int x0), (1, .int 0), (0, .int x0)]) hx hb dX4_bits_3 rfl hl (by decide) rfl (fun ls hl => ?_)
  obtain ⟨y3, hL2, hf⟩ := zq_b1_s hf
  refine w_X4_bits_L4 C0 (fun H locs ls hP hD hS hl => ?_) 100 0 x0 hL2 _ _ _ hP hD hS (lv_sub hl [1, 0] rfl)
  refine lv_iload_n hx hb dX4_bits_21 rfl (lv_at hl 0 rfl) ?_
  obtain rfl := Option.some.inj hf
  exact hret _ _ _ _ rfl dX4_bits_22 hP hD hS

def f_X4_share_L6  : Nat → Int64 → Int64 → Option (Int64)
  | 0, _, _ => none
  | q9 + 1, x5, x7 =>
  if (lg_cmp x7 0) = 0 then (
  some x5) else (
  zq_dl x7 (
  f_X4_share_L6 q9 x7 (x5 - x5 / x7 * x7)))
def f_X4_share  (x0 : Int64) (x2 : Int64) (x4 : Int32) : Option (Int64) :=
  zq_b1 (f_X4_share_L6 1100 x0 x2) (fun y4 =>
  if x4 = 0 then (
  zq_dl y4 (
  some (x0 / y4))) else (
  zq_dl y4 (
  some (x2 / y4))))
set_option maxHeartbeats 4000000 in
set_option maxRecDepth 100000 in
theorem w_X4_share_L6 {l : Launch} {p : Program} {e : Env} {s9 : State} {m9 : MethodId} {ag : Array Value} {below : List Frame} {meth : Method} {c : Code} {A : Nat → Prop} {Q : State → Prop} {D : va_G} {cy : Nat → ClassId}  {x0 : Int64} {x2 : Int64} {x4 : Int32} (C0 : zCx p s9 m9 ag c cX4_share 11 RX4 D cy A)  {o5 : Int64} (e0 : ∀ (H : Heap) (locs : List Loc) (ls : Array Slot), va_P D vwCl [] H → va_D A [] → va_S A s9.heap H locs → lv_has ls 11 [(0, .long x0), (2, .long x2), (4, .int x4), (5, .long o5)] → W p l e { frames := 0, cells := 0, slots := 0, locals := 0 } s9 m9 ag below meth c H locs 0 0 Q (F0 m9 31 ls [])) : ∀ (q9 : Nat) (x5 : Int64) (x7 : Int64), f_X4_share_L6 q9 x5 x7 = some o5 → ∀ (H : Heap) (locs : List Loc) (ls : Array Slot), va_P D vwCl [] H → va_D A [] → va_S A s9.heap H locs → lv_has ls 11 [(0, .long x0), (2, .long x2), (4, .int x4), (5, .long x5), (7, .long x7)] → W p l e { frames := 0, cells := 0, slots := 0, locals := 0 } s9 m9 ag below meth c H locs 0 0 Q (F0 m9 6 ls []) := by
  obtain ⟨hx, hb, hml, hown, hts⟩ := id C0.1
  intro q9
  induction q9 with
  | zero =>
    intro x5 x7 hf
    rw [f_X4_share_L6] at hf
    cases hf
  | succ q9 ih =>
    intro x5 x7 hf H locs ls hP hD hS hl
    rw [f_X4_share_L6] at hf
    refine lv_lload hx hb dX4_share_6 (lv_at hl 4 rfl) ?_
    refine lv_lconst (v := 0) hx hb dX4_share_8 (by decide) ?_
    refine W.lcmp hx hb dX4_share_9 ?_
    refine lv_if_eq (tgt := 31) hx hb dX4_share_10 (by decide) (fun c1 => ?_) (fun c1 => ?_)
    · have hf := it_t c1 hf
      obtain rfl := Option.some.inj hf
      exact e0 _ _ _ hP hD hS (lv_sub hl [0, 1, 2, 3] rfl)
    · have hf := it_f c1 hf
      refine lv_lload hx hb dX4_share_13 (lv_at hl 3 rfl) ?_
      refine lv_lload hx hb dX4_share_15 (lv_at hl 4 rfl) ?_
      obtain ⟨h2, hf⟩ := zq_dl_s hf
      refine lv_lrem hx hb dX4_share_17 h2 ?_
      refine lv_lstore (lv' := [(9, .long (x5 - x5 / x7 * x7)), (0, .long x0), (2, .long x2), (4, .int x4), (5, .long x5), (7, .long x7)]) hx hb dX4_share_18 hl (by decide) rfl (fun ls hl => ?_)
      refine lv_lload hx hb dX4_share_20 (lv_at hl 5 rfl) ?_
      refine lv_lstore (lv' := [(5, .long x7), (9, .long (x5 - x5 / x7 * x7)), (0, .long x0), (2, .long x2), (4, .int x4), (7, .long x7)]) hx hb dX4_share_22 hl (by decide) rfl (fun ls hl => ?_)
      refine lv_lload hx hb dX4_share_24 (lv_at hl 1 rfl) ?_
      refine lv_lstore (lv' := [(7, .long (x5 - x5 / x7 * x7)), (5, .long x7), (9, .long (x5 - x5 / x7 * x7)), (0, .long x0), (2, .long x2), (4, .int x4)]) hx hb dX4_share_26 hl (by decide) rfl (fun ls hl => ?_)
      refine lv_goto (tgt := 6) hx hb dX4_share_28 (by decide) ?_
      exact ih x7 (x5 - x5 / x7 * x7) hf _ _ _ hP hD hS (lv_sub hl [3, 4, 5, 1, 0] rfl)
set_option maxHeartbeats 4000000 in
set_option maxRecDepth 100000 in
theorem c_X4_share {l : Launch} {D : va_G} {cy : Nat → ClassId}   {x0 : Int64} {x2 : Int64} {x4 : Int32} {r0 : Int64} (hf : f_X4_share x0 x2 x4 = some r0) : zML l yX4_share (zW yX4_share cX4_share 11 (some .long)) { frames := 0, cells := 0, slots := 0, locals := 0 } D cy [.long x0, .long x2, .int x4] [] r0 [] := by
  unfold f_X4_share at hf
  refine zEL (by decide) (Nat.le_of_ble_eq_true rfl) ?_
  intro p e s9 m9 below meth c A Q C0 hret ls hl hP hD
  have hl : lv_has ls 11 [(0, .long x0), (2, .long x2), (4, .int x4)] := hl
  have hS : va_S A s9.heap s9.heap [] := va_S.rf
  obtain ⟨hx, hb, hml, hown, hts⟩ := id C0.1
  refine lv_lload_n hx hb dX4_share_0 rfl (lv_at hl 0 rfl) ?_
  refine lv_lstore (lv' := [(5, .long x0), (0, .long x0), (2, .long x2), (4, .int x4)]) hx hb dX4_share_1 hl (by decide) rfl (fun ls hl => ?_)
  refine lv_lload_n hx hb dX4_share_3 rfl (lv_at hl 2 rfl) ?_
  refine lv_lstore (lv' := [(7, .long x2), (5, .long x0), (0, .long x0), (2, .long x2), (4, .int x4)]) hx hb dX4_share_4 hl (by decide) rfl (fun ls hl => ?_)
  obtain ⟨y4, hL3, hf⟩ := zq_b1_s hf
  refine w_X4_share_L6 C0 (fun H locs ls hP hD hS hl => ?_) 1100 x0 x2 hL3 _ _ _ hP hD hS (lv_sub hl [2, 3, 4, 1, 0] rfl)
  refine lv_iload hx hb dX4_share_31 (lv_at hl 2 rfl) ?_
  refine lv_if_ne (tgt := 40) hx hb dX4_share_33 (by decide) (fun c5 => ?_) (fun c5 => ?_)
  · have hf := it_f c5 hf
    refine lv_lload_n hx hb dX4_share_40 rfl (lv_at hl 1 rfl) ?_
    refine lv_lload hx hb dX4_share_41 (lv_at hl 3 rfl) ?_
    obtain ⟨h6, hf⟩ := zq_dl_s hf
    refine lv_ldiv hx hb dX4_share_43 h6 ?_
    obtain rfl := Option.some.inj hf
    exact hret _ _ _ _ dX4_share_44 hP hD hS
  · have hf := it_t c5 hf
    refine lv_lload_n hx hb dX4_share_36 rfl (lv_at hl 0 rfl) ?_
    refine lv_goto (tgt := 41) hx hb dX4_share_37 (by decide) ?_
    refine lv_lload hx hb dX4_share_41 (lv_at hl 3 rfl) ?_
    obtain ⟨h7, hf⟩ := zq_dl_s hf
    refine lv_ldiv hx hb dX4_share_43 h7 ?_
    obtain rfl := Option.some.inj hf
    exact hret _ _ _ _ dX4_share_44 hP hD hS

def f_X4_refused (g : zS) (x1 : Int32) : Option (Int32 × zS) :=
  zq_lt (va_up g 0 (fun _ => 0)) (fun g1 =>
  some (x1, g1))
set_option maxHeartbeats 4000000 in
set_option maxRecDepth 100000 in
theorem c_X4_refused {l : Launch} {D : va_G} {ad : Nat → Nat} {cy : Nat → ClassId} {g : zS} {u : zJ} {x1 : Int32} {r0 : Int32} {g' : zS} (hf : f_X4_refused g x1 = some (r0, g')) : zMI l yX4_refused (zW yX4_refused cX4_refused 2 (some .int)) { frames := 0, cells := 0, slots := 0, locals := 0 } D cy [.ref (ad 0), .int x1] (wdM ad cy g u) r0 (wdM ad cy g' u) := by
  unfold f_X4_refused at hf
  refine zEI (ty := .int) (by decide) (Nat.le_of_ble_eq_true rfl) ?_
  intro p e s9 m9 below meth c A Q C0 hret ls hl hP hD
  have hl : lv_has ls 2 [(0, .ref (ad 0)), (1, .int x1)] := hl
  have hS : va_S A s9.heap s9.heap [] := va_S.rf
  obtain ⟨hx, hb, hml, hown, hts⟩ := id C0.1
  refine lv_aload_n hx hb dX4_refused_0 rfl (lv_at hl 0 rfl) ?_
  refine lv_iconst (v := 0) hx hb dX4_refused_1 (by decide) ?_
  obtain ⟨g1, eg1, hf⟩ := zq_lt_s hf
  refine pf_X4_76 (ws' := (wdM ad cy g1 u)) C0 hP hD hS 0 wdM_0 (Nat.le_of_ble_eq_true rfl) (by rw [eg1]; rfl) dX4_refused_2 (fun H locs hP hD hS => ?_)
  refine lv_iload_n hx hb dX4_refused_5 rfl (lv_at hl 1 rfl) ?_
  obtain ⟨rfl, rfl⟩ := zq_j2 hf
  exact hret _ _ _ _ rfl dX4_refused_6 hP hD hS

def f_X4_failed (g : zS) (x1 : Int32) : Option (Int32 × zS) :=
  zq_lt (va_up g 0 (fun _ => x1)) (fun g1 =>
  some (((-10) - x1), g1))
set_option maxHeartbeats 4000000 in
set_option maxRecDepth 100000 in
theorem c_X4_failed {l : Launch} {D : va_G} {ad : Nat → Nat} {cy : Nat → ClassId} {g : zS} {u : zJ} {x1 : Int32} {r0 : Int32} {g' : zS} (hf : f_X4_failed g x1 = some (r0, g')) : zMI l yX4_failed (zW yX4_failed cX4_failed 2 (some .int)) { frames := 0, cells := 0, slots := 0, locals := 0 } D cy [.ref (ad 0), .int x1] (wdM ad cy g u) r0 (wdM ad cy g' u) := by
  unfold f_X4_failed at hf
  refine zEI (ty := .int) (by decide) (Nat.le_of_ble_eq_true rfl) ?_
  intro p e s9 m9 below meth c A Q C0 hret ls hl hP hD
  have hl : lv_has ls 2 [(0, .ref (ad 0)), (1, .int x1)] := hl
  have hS : va_S A s9.heap s9.heap [] := va_S.rf
  obtain ⟨hx, hb, hml, hown, hts⟩ := id C0.1
  refine lv_aload_n hx hb dX4_failed_0 rfl (lv_at hl 0 rfl) ?_
  refine lv_iload_n hx hb dX4_failed_1 rfl (lv_at hl 1 rfl) ?_
  obtain ⟨g1, eg1, hf⟩ := zq_lt_s hf
  refine pf_X4_76 (ws' := (wdM ad cy g1 u)) C0 hP hD hS 0 wdM_0 (Nat.le_of_ble_eq_true rfl) (by rw [eg1]; rfl) dX4_failed_2 (fun H locs hP hD hS => ?_)
  refine lv_bipush (v := (-10)) hx hb dX4_failed_5 (by decide) ?_
  refine lv_iload_n hx hb dX4_failed_7 rfl (lv_at hl 1 rfl) ?_
  refine lv_isub hx hb dX4_failed_8 ?_
  obtain ⟨rfl, rfl⟩ := zq_j2 hf
  exact hret _ _ _ _ rfl dX4_failed_9 hP hD hS

def f_X4_failedLong (g : zS) (x1 : Int32) : Option (Int64 × zS) :=
  zq_lt (va_up g 0 (fun _ => x1)) (fun g1 =>
  zq_b1 (f_X4_lost) (fun r3 =>
  some (r3, g1)))
set_option maxHeartbeats 4000000 in
set_option maxRecDepth 100000 in
theorem c_X4_failedLong {l : Launch} {D : va_G} {ad : Nat → Nat} {cy : Nat → ClassId} {g : zS} {u : zJ} {x1 : Int32} {r0 : Int64} {g' : zS} (hf : f_X4_failedLong g x1 = some (r0, g')) : zML l yX4_failedLong (zW yX4_failedLong cX4_failedLong 2 (some .long)) { frames := 1, cells := 0, slots := 0, locals := 19 } D cy [.ref (ad 0), .int x1] (wdM ad cy g u) r0 (wdM ad cy g' u) := by
  unfold f_X4_failedLong at hf
  refine zEL (by decide) (Nat.le_of_ble_eq_true rfl) ?_
  intro p e s9 m9 below meth c A Q C0 hret ls hl hP hD
  have hl : lv_has ls 2 [(0, .ref (ad 0)), (1, .int x1)] := hl
  have hS : va_S A s9.heap s9.heap [] := va_S.rf
  obtain ⟨hx, hb, hml, hown, hts⟩ := id C0.1
  refine lv_aload_n hx hb dX4_failedLong_0 rfl (lv_at hl 0 rfl) ?_
  refine lv_iload_n hx hb dX4_failedLong_1 rfl (lv_at hl 1 rfl) ?_
  obtain ⟨g1, eg1, hf⟩ := zq_lt_s hf
  refine pf_X4_76 (ws' := (wdM ad cy g1 u)) C0 hP hD hS 0 wdM_0 (Nat.le_of_ble_eq_true rfl) (by rw [eg1]; rfl) dX4_failedLong_2 (fun H locs hP hD hS => ?_)
  obtain ⟨r3, hc2, hf⟩ := zq_b1_s hf
  refine zSL (ws' := (wdM ad cy g1 u)) (rest := []) C0 (fun _ h => h) zF.nil (c_X4_lost hc2) hP hD hS my_X4_lost kl_X4_80 ⟨rfl, rfl⟩ ⟨Nat.le_of_ble_eq_true rfl, Nat.le_of_ble_eq_true rfl⟩ rfl hl.1 rfl (Nat.le_of_ble_eq_true rfl) dX4_failedLong_5 ⟨Nat.zero_le _, Nat.zero_le _⟩ (fun H locs hP hD hS => ?_)
  obtain ⟨rfl, rfl⟩ := zq_j2 hf
  exact hret _ _ _ _ dX4_failedLong_8 hP hD hS

def f_X4_noModule (g : zS) (x1 : Int32) : Option (Int32) :=
  zq_b1 (f_X4_in (Int32.toInt64 x1) 0 ((Int32.toInt64 (g 1 0)) - 1)) (fun r2 =>
  if r2 = 0 then (
  some 1) else (
  some 0))
set_option maxHeartbeats 4000000 in
set_option maxRecDepth 100000 in
theorem c_X4_noModule {l : Launch} {D : va_G} {ad : Nat → Nat} {cy : Nat → ClassId} {g : zS} {u : zJ} {x1 : Int32} {r0 : Int32} (hf : f_X4_noModule g x1 = some r0) : zMI l yX4_noModule (zW yX4_noModule cX4_noModule 2 (some .boolean)) { frames := 1, cells := 0, slots := 0, locals := 25 } D cy [.ref (ad 0), .int x1] (wdM ad cy g u) r0 (wdM ad cy g u) := by
  unfold f_X4_noModule at hf
  refine zEI (ty := .boolean) (by decide) (Nat.le_of_ble_eq_true rfl) ?_
  intro p e s9 m9 below meth c A Q C0 hret ls hl hP hD
  have hl : lv_has ls 2 [(0, .ref (ad 0)), (1, .int x1)] := hl
  have hS : va_S A s9.heap s9.heap [] := va_S.rf
  obtain ⟨hx, hb, hml, hown, hts⟩ := id C0.1
  refine lv_iload_n hx hb dX4_noModule_0 rfl (lv_at hl 1 rfl) ?_
  refine lv_i2l hx hb dX4_noModule_1 rfl ?_
  refine lv_lconst (v := 0) hx hb dX4_noModule_2 (by decide) ?_
  refine lv_aload_n hx hb dX4_noModule_3 rfl (lv_at hl 0 rfl) ?_
  refine gf_X4_84 C0 hP 0 wdM_0 rfl dX4_noModule_4 ?_
  refine lv_i2l hx hb dX4_noModule_7 rfl ?_
  refine lv_lconst (v := 1) hx hb dX4_noModule_8 (by decide) ?_
  refine lv_lsub hx hb dX4_noModule_9 ?_
  obtain ⟨r2, hc1, hf⟩ := zq_b1_s hf
  refine zSI (ws' := (wdM ad cy g u)) (rest := []) C0 (fun _ h => h) zF.nil (c_X4_in hc1) hP hD hS my_X4_in kl_X4_87 ⟨rfl, rfl⟩ ⟨Nat.le_of_ble_eq_true rfl, Nat.le_of_ble_eq_true rfl⟩ rfl hl.1 rfl (Nat.le_of_ble_eq_true rfl) dX4_noModule_10 ⟨Nat.zero_le _, Nat.zero_le _⟩ (fun H locs hP hD hS => ?_)
  refine lv_if_ne (tgt := 20) hx hb dX4_noModule_13 (by decide) (fun c3 => ?_) (fun c3 => ?_)
  · have hf := it_f c3 hf
    refine lv_iconst (v := 0) hx hb dX4_noModule_20 (by decide) ?_
    obtain rfl := Option.some.inj hf
    exact hret _ _ _ _ rfl dX4_noModule_21 hP hD hS
  · have hf := it_t c3 hf
    refine lv_iconst (v := 1) hx hb dX4_noModule_16 (by decide) ?_
    refine lv_goto (tgt := 21) hx hb dX4_noModule_17 (by decide) ?_
    obtain rfl := Option.some.inj hf
    exact hret _ _ _ _ rfl dX4_noModule_21 hP hD hS

def f_X4_noLamp (g : zS) (x1 : Int32) : Option (Int32) :=
  zq_b1 (f_X4_in (Int32.toInt64 x1) 0 ((Int32.toInt64 (g 2 0)) - 1)) (fun r2 =>
  if r2 = 0 then (
  some 1) else (
  some 0))
set_option maxHeartbeats 4000000 in
set_option maxRecDepth 100000 in
theorem c_X4_noLamp {l : Launch} {D : va_G} {ad : Nat → Nat} {cy : Nat → ClassId} {g : zS} {u : zJ} {x1 : Int32} {r0 : Int32} (hf : f_X4_noLamp g x1 = some r0) : zMI l yX4_noLamp (zW yX4_noLamp cX4_noLamp 2 (some .boolean)) { frames := 1, cells := 0, slots := 0, locals := 25 } D cy [.ref (ad 0), .int x1] (wdM ad cy g u) r0 (wdM ad cy g u) := by
  unfold f_X4_noLamp at hf
  refine zEI (ty := .boolean) (by decide) (Nat.le_of_ble_eq_true rfl) ?_
  intro p e s9 m9 below meth c A Q C0 hret ls hl hP hD
  have hl : lv_has ls 2 [(0, .ref (ad 0)), (1, .int x1)] := hl
  have hS : va_S A s9.heap s9.heap [] := va_S.rf
  obtain ⟨hx, hb, hml, hown, hts⟩ := id C0.1
  refine lv_iload_n hx hb dX4_noLamp_0 rfl (lv_at hl 1 rfl) ?_
  refine lv_i2l hx hb dX4_noLamp_1 rfl ?_
  refine lv_lconst (v := 0) hx hb dX4_noLamp_2 (by decide) ?_
  refine lv_aload_n hx hb dX4_noLamp_3 rfl (lv_at hl 0 rfl) ?_
  refine gf_X4_91 C0 hP 0 wdM_0 rfl dX4_noLamp_4 ?_
  refine lv_i2l hx hb dX4_noLamp_7 rfl ?_
  refine lv_lconst (v := 1) hx hb dX4_noLamp_8 (by decide) ?_
  refine lv_lsub hx hb dX4_noLamp_9 ?_
  obtain ⟨r2, hc1, hf⟩ := zq_b1_s hf
  refine zSI (ws' := (wdM ad cy g u)) (rest := []) C0 (fun _ h => h) zF.nil (c_X4_in hc1) hP hD hS my_X4_in kl_X4_87 ⟨rfl, rfl⟩ ⟨Nat.le_of_ble_eq_true rfl, Nat.le_of_ble_eq_true rfl⟩ rfl hl.1 rfl (Nat.le_of_ble_eq_true rfl) dX4_noLamp_10 ⟨Nat.zero_le _, Nat.zero_le _⟩ (fun H locs hP hD hS => ?_)
  refine lv_if_ne (tgt := 20) hx hb dX4_noLamp_13 (by decide) (fun c3 => ?_) (fun c3 => ?_)
  · have hf := it_f c3 hf
    refine lv_iconst (v := 0) hx hb dX4_noLamp_20 (by decide) ?_
    obtain rfl := Option.some.inj hf
    exact hret _ _ _ _ rfl dX4_noLamp_21 hP hD hS
  · have hf := it_t c3 hf
    refine lv_iconst (v := 1) hx hb dX4_noLamp_16 (by decide) ?_
    refine lv_goto (tgt := 21) hx hb dX4_noLamp_17 (by decide) ?_
    obtain rfl := Option.some.inj hf
    exact hret _ _ _ _ rfl dX4_noLamp_21 hP hD hS

def f_X4_codeAt (g : zS) (x1 : Int32) (x2 : Int32) : Option (Int32) :=
  if x2 ≤ (g 10 0) then (
  some (-9)) else (
  zq_rd (g 28) 240 (x1 + (g 10 0)) (fun v2 =>
  some v2))
set_option maxHeartbeats 4000000 in
set_option maxRecDepth 100000 in
theorem c_X4_codeAt {l : Launch} {D : va_G} {ad : Nat → Nat} {cy : Nat → ClassId} {g : zS} {u : zJ} {x1 : Int32} {x2 : Int32} {r0 : Int32} (hf : f_X4_codeAt g x1 x2 = some r0) : zMI l yX4_codeAt (zW yX4_codeAt cX4_codeAt 3 (some .int)) { frames := 0, cells := 0, slots := 0, locals := 0 } D cy [.ref (ad 0), .int x1, .int x2] (wdM ad cy g u) r0 (wdM ad cy g u) := by
  unfold f_X4_codeAt at hf
  refine zEI (ty := .int) (by decide) (Nat.le_of_ble_eq_true rfl) ?_
  intro p e s9 m9 below meth c A Q C0 hret ls hl hP hD
  have hl : lv_has ls 3 [(0, .ref (ad 0)), (1, .int x1), (2, .int x2)] := hl
  have hS : va_S A s9.heap s9.heap [] := va_S.rf
  obtain ⟨hx, hb, hml, hown, hts⟩ := id C0.1
  refine lv_aload_n hx hb dX4_codeAt_0 rfl (lv_at hl 0 rfl) ?_
  refine gf_X4_94 C0 hP 0 wdM_0 rfl dX4_codeAt_1 ?_
  refine lv_iload_n hx hb dX4_codeAt_4 rfl (lv_at hl 2 rfl) ?_
  refine lv_icmp_ge (tgt := 22) hx hb dX4_codeAt_5 (by decide) (fun c1 => ?_) (fun c1 => ?_)
  · have hf := it_t c1 hf
    refine lv_bipush (v := (-9)) hx hb dX4_codeAt_22 (by decide) ?_
    obtain rfl := Option.some.inj hf
    exact hret _ _ _ _ rfl dX4_codeAt_24 hP hD hS
  · have hf := it_f c1 hf
    refine lv_aload_n hx hb dX4_codeAt_8 rfl (lv_at hl 0 rfl) ?_
    refine gf_X4_68 C0 hP 0 wdM_0 rfl dX4_codeAt_9 ?_
    refine lv_iload_n hx hb dX4_codeAt_12 rfl (lv_at hl 1 rfl) ?_
    refine lv_aload_n hx hb dX4_codeAt_13 rfl (lv_at hl 0 rfl) ?_
    refine gf_X4_94 C0 hP 0 wdM_0 rfl dX4_codeAt_14 ?_
    refine lv_iadd hx hb dX4_codeAt_17 ?_
    obtain ⟨v2, ev2, h3, hf⟩ := zq_rd_s hf
    refine zia C0 hP 20 wdM_20 ev2 h3 dX4_codeAt_18 ?_
    refine lv_goto (tgt := 24) hx hb dX4_codeAt_19 (by decide) ?_
    obtain rfl := Option.some.inj hf
    exact hret _ _ _ _ rfl dX4_codeAt_24 hP hD hS

def f_X4_readsModule_L110 (x1 : Int32) (x2 : Int32) (x4 : Int32) : Nat → zS → Option (zS)
  | 0, _ => none
  | q9 + 1, g =>
  zq_rd (g 15) 4 x4 (fun v16 =>
  if 4 ≤ v16 then (
  some g) else (
  zq_b1 (f_X4_codeAt g x1 x2) (fun r20 =>
  zq_b1 (f_X4_in (Int32.toInt64 r20) 48 57) (fun r22 =>
  if r22 = 0 then (
  some g) else (
  zq_b1 (f_X4_codeAt g x1 x2) (fun r25 =>
  zq_in 16 (g 13 0) (zq_lt (va_up g 16 (upd (g 16) (Int32.toNatClampNeg (g 13 0)) (r25 - 48))) (fun g27 =>
  zq_lt (va_up g27 13 (fun _ => ((g27 13 0) + 1))) (fun g28 =>
  zq_rd (g28 15) 4 x4 (fun v29 =>
  zq_in 4 x4 (zq_lt (va_up g28 15 (upd (g28 15) (Int32.toNatClampNeg x4) (v29 + 1))) (fun g32 =>
  zq_lt (va_up g32 10 (fun _ => ((g32 10 0) + 1))) (fun g33 =>
  f_X4_readsModule_L110 x1 x2 x4 q9 g33)))))))))))))
def f_X4_readsModule_J101 (j1 : Int32) (j2 : Int32) (j4 : Int32) (z0 : Int32) (z1 : Int32) (g : zS) : Option (Int32 × zS) :=
  zq_in 4 z1 (zq_lt (va_up g 14 (upd (g 14) (Int32.toNatClampNeg z1) z0)) (fun g13 =>
  zq_in 4 j4 (zq_lt (va_up g13 15 (upd (g13 15) (Int32.toNatClampNeg j4) 0)) (fun g15 =>
  zq_b1 (f_X4_readsModule_L110 j1 j2 j4 100 g15) (fun g35 =>
  zq_lt (va_up g35 12 (fun _ => ((g35 12 0) + 1))) (fun g36 =>
  zq_rd (g36 15) 4 j4 (fun v37 =>
  if v37 ≤ 0 then (
  some (0, g36)) else (
  some (1, g36)))))))))
def f_X4_readsModule_J58 (j1 : Int32) (j2 : Int32) (j3 : Int32) (g : zS) : Option (Int32 × zS) :=
  zq_lt (va_up g 10 (fun _ => ((g 10 0) + 1))) (fun g9 =>
  if j3 = 112 then (
  f_X4_readsModule_J101 j1 j2 (g9 12 0) 0 (g9 12 0) g9) else (
  if j3 = 104 then (
  f_X4_readsModule_J101 j1 j2 (g9 12 0) 1 (g9 12 0) g9) else (
  f_X4_readsModule_J101 j1 j2 (g9 12 0) 2 (g9 12 0) g9)))
def f_X4_readsModule (g : zS) (x1 : Int32) (x2 : Int32) : Option (Int32 × zS) :=
  if (g 12 0) = 4 then (
  some (0, g)) else (
  zq_b1 (f_X4_codeAt g x1 x2) (fun r3 =>
  if r3 = 59 then (
  zq_lt (va_up g 10 (fun _ => ((g 10 0) + 1))) (fun g5 =>
  zq_b1 (f_X4_codeAt g5 x1 x2) (fun r7 =>
  if r7 = 112 then (
  f_X4_readsModule_J58 x1 x2 r7 g5) else (
  if r7 = 104 then (
  f_X4_readsModule_J58 x1 x2 r7 g5) else (
  if r7 = 98 then (
  f_X4_readsModule_J58 x1 x2 r7 g5) else (
  some (0, g5))))))) else (
  some (0, g))))
set_option maxHeartbeats 4000000 in
set_option maxRecDepth 100000 in
theorem w_X4_readsModule_L110 {l : Launch} {p : Program} {e : Env} {s9 : State} {m9 : MethodId} {ag : Array Value} {below : List Frame} {meth : Method} {c : Code} {A : Nat → Prop} {Q : State → Prop} {D : va_G} {ad : Nat → Nat} {cy : Nat → ClassId} {u : zJ} {x1 : Int32} {x2 : Int32} {x4 : Int32} (C0 : zCx p s9 m9 ag c cX4_readsModule 5 RX4 D cy A)  {go : zS} (e0 : ∀ (H : Heap) (locs : List Loc) (ls : Array Slot), va_P D vwCl (wdM ad cy go u) H → va_D A (wdM ad cy go u) → va_S A s9.heap H locs → lv_has ls 5 [(0, .ref (ad 0)), (4, .int x4)] → W p l e { frames := 1, cells := 0, slots := 0, locals := 25 } s9 m9 ag below meth c H locs 0 0 Q (F0 m9 192 ls [])) : ∀ (q9 : Nat) (g : zS), f_X4_readsModule_L110 x1 x2 x4 q9 g = some go → ∀ (H : Heap) (locs : List Loc) (ls : Array Slot), va_P D vwCl (wdM ad cy g u) H → va_D A (wdM ad cy g u) → va_S A s9.heap H locs → lv_has ls 5 [(0, .ref (ad 0)), (1, .int x1), (2, .int x2), (4, .int x4)] → W p l e { frames := 1, cells := 0, slots := 0, locals := 25 } s9 m9 ag below meth c H locs 0 0 Q (F0 m9 110 ls []) := by
  obtain ⟨hx, hb, hml, hown, hts⟩ := id C0.1
  intro q9
  induction q9 with
  | zero =>
    intro g hf
    rw [f_X4_readsModule_L110] at hf
    cases hf
  | succ q9 ih =>
    intro g hf H locs ls hP hD hS hl
    rw [f_X4_readsModule_L110] at hf
    refine lv_aload_n hx hb dX4_readsModule_110 rfl (lv_at hl 0 rfl) ?_
    refine gf_X4_31 C0 hP 0 wdM_0 rfl dX4_readsModule_111 ?_
    refine lv_iload hx hb dX4_readsModule_114 (lv_at hl 3 rfl) ?_
    obtain ⟨v16, ev16, h17, hf⟩ := zq_rd_s hf
    refine zia C0 hP 8 wdM_8 ev16 h17 dX4_readsModule_116 ?_
    refine lv_iconst (v := 4) hx hb dX4_readsModule_117 (by decide) ?_
    refine lv_icmp_ge (tgt := 192) hx hb dX4_readsModule_118 (by decide) (fun c18 => ?_) (fun c18 => ?_)
    · have hf := it_t c18 hf
      obtain rfl := Option.some.inj hf
      exact e0 _ _ _ hP hD hS (lv_sub hl [0, 3] rfl)
    · have hf := it_f c18 hf
      refine lv_aload_n hx hb dX4_readsModule_121 rfl (lv_at hl 0 rfl) ?_
      refine lv_iload_n hx hb dX4_readsModule_122 rfl (lv_at hl 1 rfl) ?_
      refine lv_iload_n hx hb dX4_readsModule_123 rfl (lv_at hl 2 rfl) ?_
      obtain ⟨r20, hc19, hf⟩ := zq_b1_s hf
      refine zVI (ws' := (wdM ad cy g u)) (rest := []) C0 (fun _ h => h) zF.id (c_X4_codeAt hc19) hP hD hS my_X4_codeAt kl_X4_100 ⟨rfl, rfl⟩ ⟨Nat.le_of_ble_eq_true rfl, Nat.le_of_ble_eq_true rfl⟩ (q0 := 0) (ci := 4) rfl wdM_0 rfl hl.1 rfl (Nat.le_of_ble_eq_true rfl) dX4_readsModule_124 ⟨Nat.zero_le _, Nat.zero_le _⟩ (fun H locs hP hD hS => ?_)
      refine lv_i2l hx hb dX4_readsModule_127 rfl ?_
      refine lv_ldc2 hx hb hown (hts _ kc_X4_104) dX4_readsModule_128 ?_
      refine lv_ldc2 hx hb hown (hts _ kc_X4_106) dX4_readsModule_131 ?_
      obtain ⟨r22, hc21, hf⟩ := zq_b1_s hf
      refine zSI (ws' := (wdM ad cy g u)) (rest := []) C0 (fun _ h => h) zF.nil (c_X4_in hc21) hP hD hS my_X4_in kl_X4_87 ⟨rfl, rfl⟩ ⟨Nat.le_of_ble_eq_true rfl, Nat.le_of_ble_eq_true rfl⟩ rfl hl.1 rfl (Nat.le_of_ble_eq_true rfl) dX4_readsModule_134 ⟨Nat.zero_le _, Nat.zero_le _⟩ (fun H locs hP hD hS => ?_)
      refine lv_if_eq (tgt := 192) hx hb dX4_readsModule_137 (by decide) (fun c23 => ?_) (fun c23 => ?_)
      · have hf := it_t c23 hf
        obtain rfl := Option.some.inj hf
        exact e0 _ _ _ hP hD hS (lv_sub hl [0, 3] rfl)
      · have hf := it_f c23 hf
        refine lv_aload_n hx hb dX4_readsModule_140 rfl (lv_at hl 0 rfl) ?_
        refine gf_X4_34 C0 hP 0 wdM_0 rfl dX4_readsModule_141 ?_
        refine lv_aload_n hx hb dX4_readsModule_144 rfl (lv_at hl 0 rfl) ?_
        refine gf_X4_108 C0 hP 0 wdM_0 rfl dX4_readsModule_145 ?_
        refine lv_aload_n hx hb dX4_readsModule_148 rfl (lv_at hl 0 rfl) ?_
        refine lv_iload_n hx hb dX4_readsModule_149 rfl (lv_at hl 1 rfl) ?_
        refine lv_iload_n hx hb dX4_readsModule_150 rfl (lv_at hl 2 rfl) ?_
        obtain ⟨r25, hc24, hf⟩ := zq_b1_s hf
        refine zVI (ws' := (wdM ad cy g u)) (rest := [.int (g 13 0), .ref (ad 9)]) C0 (fun _ h => h) zF.id (c_X4_codeAt hc24) hP hD hS my_X4_codeAt kl_X4_100 ⟨rfl, rfl⟩ ⟨Nat.le_of_ble_eq_true rfl, Nat.le_of_ble_eq_true rfl⟩ (q0 := 0) (ci := 4) rfl wdM_0 rfl hl.1 rfl (Nat.le_of_ble_eq_true rfl) dX4_readsModule_151 ⟨Nat.zero_le _, Nat.zero_le _⟩ (fun H locs hP hD hS => ?_)
        refine lv_bipush (v := 48) hx hb dX4_readsModule_154 (by decide) ?_
        refine lv_isub hx hb dX4_readsModule_156 ?_
        obtain ⟨h26, hf⟩ := zq_in_s hf
        obtain ⟨g27, eg27, hf⟩ := zq_lt_s hf
        refine zis (ws' := (wdM ad cy g27 u)) C0 hP hD hS 9 wdM_9 h26 (by rw [eg27]; rfl) dX4_readsModule_157 (fun H locs hP hD hS => ?_)
        refine lv_aload_n hx hb dX4_readsModule_158 rfl (lv_at hl 0 rfl) ?_
        refine lv_dup hx hb dX4_readsModule_159 rfl ?_
        refine gf_X4_108 C0 hP 0 wdM_0 rfl dX4_readsModule_160 ?_
        refine lv_iconst (v := 1) hx hb dX4_readsModule_163 (by decide) ?_
        refine lv_iadd hx hb dX4_readsModule_164 ?_
        obtain ⟨g28, eg28, hf⟩ := zq_lt_s hf
        refine pf_X4_108 (ws' := (wdM ad cy g28 u)) C0 hP hD hS 0 wdM_0 (Nat.le_of_ble_eq_true rfl) (by rw [eg28]; rfl) dX4_readsModule_165 (fun H locs hP hD hS => ?_)
        refine lv_aload_n hx hb dX4_readsModule_168 rfl (lv_at hl 0 rfl) ?_
        refine gf_X4_31 C0 hP 0 wdM_0 rfl dX4_readsModule_169 ?_
        refine lv_iload hx hb dX4_readsModule_172 (lv_at hl 3 rfl) ?_
        refine lv_dup2_11 hx hb dX4_readsModule_174 rfl rfl ?_
        obtain ⟨v29, ev29, h30, hf⟩ := zq_rd_s hf
        refine zia C0 hP 8 wdM_8 ev29 h30 dX4_readsModule_175 ?_
        refine lv_iconst (v := 1) hx hb dX4_readsModule_176 (by decide) ?_
        refine lv_iadd hx hb dX4_readsModule_177 ?_
        obtain ⟨h31, hf⟩ := zq_in_s hf
        obtain ⟨g32, eg32, hf⟩ := zq_lt_s hf
        refine zis (ws' := (wdM ad cy g32 u)) C0 hP hD hS 8 wdM_8 h31 (by rw [eg32]; rfl) dX4_readsModule_178 (fun H locs hP hD hS => ?_)
        refine lv_aload_n hx hb dX4_readsModule_179 rfl (lv_at hl 0 rfl) ?_
        refine lv_dup hx hb dX4_readsModule_180 rfl ?_
        refine gf_X4_94 C0 hP 0 wdM_0 rfl dX4_readsModule_181 ?_
        refine lv_iconst (v := 1) hx hb dX4_readsModule_184 (by decide) ?_
        refine lv_iadd hx hb dX4_readsModule_185 ?_
        obtain ⟨g33, eg33, hf⟩ := zq_lt_s hf
        refine pf_X4_94 (ws' := (wdM ad cy g33 u)) C0 hP hD hS 0 wdM_0 (Nat.le_of_ble_eq_true rfl) (by rw [eg33]; rfl) dX4_readsModule_186 (fun H locs hP hD hS => ?_)
        refine lv_goto (tgt := 110) hx hb dX4_readsModule_189 (by decide) ?_
        exact ih g33 hf _ _ _ hP hD hS (lv_sub hl [0, 1, 2, 3] rfl)
set_option maxHeartbeats 4000000 in
set_option maxRecDepth 100000 in
theorem c_X4_readsModule {l : Launch} {D : va_G} {ad : Nat → Nat} {cy : Nat → ClassId} {g : zS} {u : zJ} {x1 : Int32} {x2 : Int32} {r0 : Int32} {g' : zS} (hf : f_X4_readsModule g x1 x2 = some (r0, g')) : zMI l yX4_readsModule (zW yX4_readsModule cX4_readsModule 5 (some .boolean)) { frames := 1, cells := 0, slots := 0, locals := 25 } D cy [.ref (ad 0), .int x1, .int x2] (wdM ad cy g u) r0 (wdM ad cy g' u) := by
  unfold f_X4_readsModule at hf
  refine zEI (ty := .boolean) (by decide) (Nat.le_of_ble_eq_true rfl) ?_
  intro p e s9 m9 below meth c A Q C0 hret ls hl hP hD
  have hl : lv_has ls 5 [(0, .ref (ad 0)), (1, .int x1), (2, .int x2)] := hl
  have hS : va_S A s9.heap s9.heap [] := va_S.rf
  obtain ⟨hx, hb, hml, hown, hts⟩ := id C0.1
  have hj101 : ∀ (j1 : Int32) (j2 : Int32) (j4 : Int32) (z0 : Int32) (z1 : Int32) (g : zS), f_X4_readsModule_J101 j1 j2 j4 z0 z1 g = some (r0, g') → ∀ (H : Heap) (locs : List Loc) (ls : Array Slot), va_P D vwCl (wdM ad cy g u) H → va_D A (wdM ad cy g u) → va_S A s9.heap H locs → lv_has ls 5 [(0, .ref (ad 0)), (1, .int j1), (2, .int j2), (4, .int j4)] → W p l e { frames := 1, cells := 0, slots := 0, locals := 25 } s9 m9 [.ref (ad 0), .int x1, .int x2].toArray below meth c H locs 0 0 Q (F0 m9 101 ls [.int z0, .int z1, .ref (ad 7)]) := by
    intro j1 j2 j4 z0 z1 g hf H locs ls hP hD hS hl
    unfold f_X4_readsModule_J101 at hf
    obtain ⟨h12, hf⟩ := zq_in_s hf
    obtain ⟨g13, eg13, hf⟩ := zq_lt_s hf
    refine zis (ws' := (wdM ad cy g13 u)) C0 hP hD hS 7 wdM_7 h12 (by rw [eg13]; rfl) dX4_readsModule_101 (fun H locs hP hD hS => ?_)
    refine lv_aload_n hx hb dX4_readsModule_102 rfl (lv_at hl 0 rfl) ?_
    refine gf_X4_31 C0 hP 0 wdM_0 rfl dX4_readsModule_103 ?_
    refine lv_iload hx hb dX4_readsModule_106 (lv_at hl 3 rfl) ?_
    refine lv_iconst (v := 0) hx hb dX4_readsModule_108 (by decide) ?_
    obtain ⟨h14, hf⟩ := zq_in_s hf
    obtain ⟨g15, eg15, hf⟩ := zq_lt_s hf
    refine zis (ws' := (wdM ad cy g15 u)) C0 hP hD hS 8 wdM_8 h14 (by rw [eg15]; rfl) dX4_readsModule_109 (fun H locs hP hD hS => ?_)
    obtain ⟨g35, hL34, hf⟩ := zq_b1_s hf
    refine w_X4_readsModule_L110 C0 (fun H locs ls hP hD hS hl => ?_) 100 g15 hL34 _ _ _ hP hD hS (lv_sub hl [0, 1, 2, 3] rfl)
    refine lv_aload_n hx hb dX4_readsModule_192 rfl (lv_at hl 0 rfl) ?_
    refine lv_dup hx hb dX4_readsModule_193 rfl ?_
    refine gf_X4_97 C0 hP 0 wdM_0 rfl dX4_readsModule_194 ?_
    refine lv_iconst (v := 1) hx hb dX4_readsModule_197 (by decide) ?_
    refine lv_iadd hx hb dX4_readsModule_198 ?_
    obtain ⟨g36, eg36, hf⟩ := zq_lt_s hf
    refine pf_X4_97 (ws' := (wdM ad cy g36 u)) C0 hP hD hS 0 wdM_0 (Nat.le_of_ble_eq_true rfl) (by rw [eg36]; rfl) dX4_readsModule_199 (fun H locs hP hD hS => ?_)
    refine lv_aload_n hx hb dX4_readsModule_202 rfl (lv_at hl 0 rfl) ?_
    refine gf_X4_31 C0 hP 0 wdM_0 rfl dX4_readsModule_203 ?_
    refine lv_iload hx hb dX4_readsModule_206 (lv_at hl 1 rfl) ?_
    obtain ⟨v37, ev37, h38, hf⟩ := zq_rd_s hf
    refine zia C0 hP 8 wdM_8 ev37 h38 dX4_readsModule_208 ?_
    refine lv_if_le (tgt := 216) hx hb dX4_readsModule_209 (by decide) (fun c39 => ?_) (fun c39 => ?_)
    · have hf := it_t c39 hf
      refine lv_iconst (v := 0) hx hb dX4_readsModule_216 (by decide) ?_
      obtain ⟨rfl, rfl⟩ := zq_j2 hf
      exact hret _ _ _ _ rfl dX4_readsModule_217 hP hD hS
    · have hf := it_f c39 hf
      refine lv_iconst (v := 1) hx hb dX4_readsModule_212 (by decide) ?_
      refine lv_goto (tgt := 217) hx hb dX4_readsModule_213 (by decide) ?_
      obtain ⟨rfl, rfl⟩ := zq_j2 hf
      exact hret _ _ _ _ rfl dX4_readsModule_217 hP hD hS
  have hj58 : ∀ (j1 : Int32) (j2 : Int32) (j3 : Int32) (g : zS), f_X4_readsModule_J58 j1 j2 j3 g = some (r0, g') → ∀ (H : Heap) (locs : List Loc) (ls : Array Slot), va_P D vwCl (wdM ad cy g u) H → va_D A (wdM ad cy g u) → va_S A s9.heap H locs → lv_has ls 5 [(0, .ref (ad 0)), (1, .int j1), (2, .int j2), (3, .int j3)] → W p l e { frames := 1, cells := 0, slots := 0, locals := 25 } s9 m9 [.ref (ad 0), .int x1, .int x2].toArray below meth c H locs 0 0 Q (F0 m9 58 ls []) := by
    intro j1 j2 j3 g hf H locs ls hP hD hS hl
    unfold f_X4_readsModule_J58 at hf
    refine lv_aload_n hx hb dX4_readsModule_58 rfl (lv_at hl 0 rfl) ?_
    refine lv_dup hx hb dX4_readsModule_59 rfl ?_
    refine gf_X4_94 C0 hP 0 wdM_0 rfl dX4_readsModule_60 ?_
    refine lv_iconst (v := 1) hx hb dX4_readsModule_63 (by decide) ?_
    refine lv_iadd hx hb dX4_readsModule_64 ?_
    obtain ⟨g9, eg9, hf⟩ := zq_lt_s hf
    refine pf_X4_94 (ws' := (wdM ad cy g9 u)) C0 hP hD hS 0 wdM_0 (Nat.le_of_ble_eq_true rfl) (by rw [eg9]; rfl) dX4_readsModule_65 (fun H locs hP hD hS => ?_)
    refine lv_aload_n hx hb dX4_readsModule_68 rfl (lv_at hl 0 rfl) ?_
    refine gf_X4_97 C0 hP 0 wdM_0 rfl dX4_readsModule_69 ?_
    refine lv_istore (lv' := [(4, .int (g9 12 0)), (0, .ref (ad 0)), (1, .int j1), (2, .int j2), (3, .int j3)]) hx hb dX4_readsModule_72 hl (by decide) rfl (fun ls hl => ?_)
    refine lv_aload_n hx hb dX4_readsModule_74 rfl (lv_at hl 1 rfl) ?_
    refine gf_X4_28 C0 hP 0 wdM_0 rfl dX4_readsModule_75 ?_
    refine lv_iload hx hb dX4_readsModule_78 (lv_at hl 0 rfl) ?_
    refine lv_iload_n hx hb dX4_readsModule_80 rfl (lv_at hl 4 rfl) ?_
    refine lv_bipush (v := 112) hx hb dX4_readsModule_81 (by decide) ?_
    refine lv_icmp_ne (tgt := 90) hx hb dX4_readsModule_83 (by decide) (fun c10 => ?_) (fun c10 => ?_)
    · have hf := it_f c10 hf
      refine lv_iload_n hx hb dX4_readsModule_90 rfl (lv_at hl 4 rfl) ?_
      refine lv_bipush (v := 104) hx hb dX4_readsModule_91 (by decide) ?_
      refine lv_icmp_ne (tgt := 100) hx hb dX4_readsModule_93 (by decide) (fun c11 => ?_) (fun c11 => ?_)
      · have hf := it_f c11 hf
        refine lv_iconst (v := 2) hx hb dX4_readsModule_100 (by decide) ?_
        exact hj101 j1 j2 (g9 12 0) 2 (g9 12 0) g9 hf _ _ _ hP hD hS (lv_sub hl [1, 2, 3, 0] rfl)
      · have hf := it_t c11 hf
        refine lv_iconst (v := 1) hx hb dX4_readsModule_96 (by decide) ?_
        refine lv_goto (tgt := 101) hx hb dX4_readsModule_97 (by decide) ?_
        exact hj101 j1 j2 (g9 12 0) 1 (g9 12 0) g9 hf _ _ _ hP hD hS (lv_sub hl [1, 2, 3, 0] rfl)
    · have hf := it_t c10 hf
      refine lv_iconst (v := 0) hx hb dX4_readsModule_86 (by decide) ?_
      refine lv_goto (tgt := 101) hx hb dX4_readsModule_87 (by decide) ?_
      exact hj101 j1 j2 (g9 12 0) 0 (g9 12 0) g9 hf _ _ _ hP hD hS (lv_sub hl [1, 2, 3, 0] rfl)
  refine lv_aload_n hx hb dX4_readsModule_0 rfl (lv_at hl 0 rfl) ?_
  refine gf_X4_97 C0 hP 0 wdM_0 rfl dX4_readsModule_1 ?_
  refine lv_iconst (v := 4) hx hb dX4_readsModule_4 (by decide) ?_
  refine lv_icmp_eq (tgt := 19) hx hb dX4_readsModule_5 (by decide) (fun c1 => ?_) (fun c1 => ?_)
  · have hf := it_t c1 hf
    refine lv_iconst (v := 0) hx hb dX4_readsModule_19 (by decide) ?_
    obtain ⟨rfl, rfl⟩ := zq_j2 hf
    exact hret _ _ _ _ rfl dX4_readsModule_20 hP hD hS
  · have hf := it_f c1 hf
    refine lv_aload_n hx hb dX4_readsModule_8 rfl (lv_at hl 0 rfl) ?_
    refine lv_iload_n hx hb dX4_readsModule_9 rfl (lv_at hl 1 rfl) ?_
    refine lv_iload_n hx hb dX4_readsModule_10 rfl (lv_at hl 2 rfl) ?_
    obtain ⟨r3, hc2, hf⟩ := zq_b1_s hf
    refine zVI (ws' := (wdM ad cy g u)) (rest := []) C0 (fun _ h => h) zF.id (c_X4_codeAt hc2) hP hD hS my_X4_codeAt kl_X4_100 ⟨rfl, rfl⟩ ⟨Nat.le_of_ble_eq_true rfl, Nat.le_of_ble_eq_true rfl⟩ (q0 := 0) (ci := 4) rfl wdM_0 rfl hl.1 rfl (Nat.le_of_ble_eq_true rfl) dX4_readsModule_11 ⟨Nat.zero_le _, Nat.zero_le _⟩ (fun H locs hP hD hS => ?_)
    refine lv_bipush (v := 59) hx hb dX4_readsModule_14 (by decide) ?_
    refine lv_icmp_eq (tgt := 21) hx hb dX4_readsModule_16 (by decide) (fun c4 => ?_) (fun c4 => ?_)
    · have hf := it_t c4 hf
      refine lv_aload_n hx hb dX4_readsModule_21 rfl (lv_at hl 0 rfl) ?_
      refine lv_dup hx hb dX4_readsModule_22 rfl ?_
      refine gf_X4_94 C0 hP 0 wdM_0 rfl dX4_readsModule_23 ?_
      refine lv_iconst (v := 1) hx hb dX4_readsModule_26 (by decide) ?_
      refine lv_iadd hx hb dX4_readsModule_27 ?_
      obtain ⟨g5, eg5, hf⟩ := zq_lt_s hf
      refine pf_X4_94 (ws' := (wdM ad cy g5 u)) C0 hP hD hS 0 wdM_0 (Nat.le_of_ble_eq_true rfl) (by rw [eg5]; rfl) dX4_readsModule_28 (fun H locs hP hD hS => ?_)
      refine lv_aload_n hx hb dX4_readsModule_31 rfl (lv_at hl 0 rfl) ?_
      refine lv_iload_n hx hb dX4_readsModule_32 rfl (lv_at hl 1 rfl) ?_
      refine lv_iload_n hx hb dX4_readsModule_33 rfl (lv_at hl 2 rfl) ?_
      obtain ⟨r7, hc6, hf⟩ := zq_b1_s hf
      refine zVI (ws' := (wdM ad cy g5 u)) (rest := []) C0 (fun _ h => h) zF.id (c_X4_codeAt hc6) hP hD hS my_X4_codeAt kl_X4_100 ⟨rfl, rfl⟩ ⟨Nat.le_of_ble_eq_true rfl, Nat.le_of_ble_eq_true rfl⟩ (q0 := 0) (ci := 4) rfl wdM_0 rfl hl.1 rfl (Nat.le_of_ble_eq_true rfl) dX4_readsModule_34 ⟨Nat.zero_le _, Nat.zero_le _⟩ (fun H locs hP hD hS => ?_)
      refine lv_istore_n (lv' := [(3, .int r7), (0, .ref (ad 0)), (1, .int x1), (2, .int x2)]) hx hb dX4_readsModule_37 rfl hl (by decide) rfl (fun ls hl => ?_)
      refine lv_iload_n hx hb dX4_readsModule_38 rfl (lv_at hl 0 rfl) ?_
      refine lv_bipush (v := 112) hx hb dX4_readsModule_39 (by decide) ?_
      refine lv_icmp_eq (tgt := 58) hx hb dX4_readsModule_41 (by decide) (fun c8 => ?_) (fun c8 => ?_)
      · have hf := it_t c8 hf
        exact hj58 x1 x2 r7 g5 hf _ _ _ hP hD hS (lv_sub hl [1, 2, 3, 0] rfl)
      · have hf := it_f c8 hf
        refine lv_iload_n hx hb dX4_readsModule_44 rfl (lv_at hl 0 rfl) ?_
        refine lv_bipush (v := 104) hx hb dX4_readsModule_45 (by decide) ?_
        refine lv_icmp_eq (tgt := 58) hx hb dX4_readsModule_47 (by decide) (fun c40 => ?_) (fun c40 => ?_)
        · have hf := it_t c40 hf
          exact hj58 x1 x2 r7 g5 hf _ _ _ hP hD hS (lv_sub hl [1, 2, 3, 0] rfl)
        · have hf := it_f c40 hf
          refine lv_iload_n hx hb dX4_readsModule_50 rfl (lv_at hl 0 rfl) ?_
          refine lv_bipush (v := 98) hx hb dX4_readsModule_51 (by decide) ?_
          refine lv_icmp_eq (tgt := 58) hx hb dX4_readsModule_53 (by decide) (fun c41 => ?_) (fun c41 => ?_)
          · have hf := it_t c41 hf
            exact hj58 x1 x2 r7 g5 hf _ _ _ hP hD hS (lv_sub hl [1, 2, 3, 0] rfl)
          · have hf := it_f c41 hf
            refine lv_iconst (v := 0) hx hb dX4_readsModule_56 (by decide) ?_
            obtain ⟨rfl, rfl⟩ := zq_j2 hf
            exact hret _ _ _ _ rfl dX4_readsModule_57 hP hD hS
    · have hf := it_f c4 hf
      refine lv_iconst (v := 0) hx hb dX4_readsModule_19 (by decide) ?_
      obtain ⟨rfl, rfl⟩ := zq_j2 hf
      exact hret _ _ _ _ rfl dX4_readsModule_20 hP hD hS

def f_X4_readsWall_L80 (x1 : Int32) (x2 : Int32) : Nat → Int32 → zS → Option (Int32 × zS)
  | 0, _, _ => none
  | q9 + 1, x3, g =>
  if x3 = 0 then (
  some (x3, g)) else (
  if (g 12 0) < 1 then (
  zq_b2 (f_X4_readsModule g x1 x2) (fun r18 g19 =>
  f_X4_readsWall_L80 x1 x2 q9 r18 g19)) else (
  if x2 ≤ (g 10 0) then (
  some (x3, g)) else (
  zq_b2 (f_X4_readsModule g x1 x2) (fun r22 g23 =>
  f_X4_readsWall_L80 x1 x2 q9 r22 g23))))
def f_X4_readsWall (g : zS) (x1 : Int32) (x2 : Int32) : Option (Int32 × zS) :=
  zq_lt (va_up g 10 (fun _ => 0)) (fun g1 =>
  zq_lt (va_up g1 12 (fun _ => 0)) (fun g2 =>
  zq_lt (va_up g2 13 (fun _ => 0)) (fun g3 =>
  zq_b1 (f_X4_codeAt g3 x1 x2) (fun r5 =>
  if r5 = 119 then (
  zq_lt (va_up g3 10 (fun _ => ((g3 10 0) + 1))) (fun g7 =>
  zq_b1 (f_X4_codeAt g7 x1 x2) (fun r9 =>
  zq_lt (va_up g7 11 (fun _ => (r9 - 48))) (fun g10 =>
  zq_b1 (f_X4_in (Int32.toInt64 (g10 11 0)) 1 8) (fun r12 =>
  if r12 = 0 then (
  some (0, g10)) else (
  zq_lt (va_up g10 10 (fun _ => ((g10 10 0) + 1))) (fun g14 =>
  zq_b2 (f_X4_readsWall_L80 x1 x2 100 1 g14) (fun y25 g26 =>
  zq_z y25 (some (y25, g26)))))))))) else (
  some (0, g3))))))
set_option maxHeartbeats 4000000 in
set_option maxRecDepth 100000 in
theorem w_X4_readsWall_L80 {l : Launch} {p : Program} {e : Env} {s9 : State} {m9 : MethodId} {ag : Array Value} {below : List Frame} {meth : Method} {c : Code} {A : Nat → Prop} {Q : State → Prop} {D : va_G} {ad : Nat → Nat} {cy : Nat → ClassId} {u : zJ} {x1 : Int32} {x2 : Int32} (C0 : zCx p s9 m9 ag c cX4_readsWall 4 RX4 D cy A)  {o3 : Int32} {go : zS} (e0 : ∀ (H : Heap) (locs : List Loc) (ls : Array Slot), va_P D vwCl (wdM ad cy go u) H → va_D A (wdM ad cy go u) → va_S A s9.heap H locs → lv_has ls 4 [(3, .int o3)] → W p l e { frames := 2, cells := 0, slots := 0, locals := 49 } s9 m9 ag below meth c H locs 0 0 Q (F0 m9 110 ls [])) : ∀ (q9 : Nat) (x3 : Int32) (g : zS), f_X4_readsWall_L80 x1 x2 q9 x3 g = some (o3, go) → ∀ (H : Heap) (locs : List Loc) (ls : Array Slot), va_P D vwCl (wdM ad cy g u) H → va_D A (wdM ad cy g u) → va_S A s9.heap H locs → lv_has ls 4 [(0, .ref (ad 0)), (1, .int x1), (2, .int x2), (3, .int x3)] → W p l e { frames := 2, cells := 0, slots := 0, locals := 49 } s9 m9 ag below meth c H locs 0 0 Q (F0 m9 80 ls []) := by
  obtain ⟨hx, hb, hml, hown, hts⟩ := id C0.1
  intro q9
  induction q9 with
  | zero =>
    intro x3 g hf
    rw [f_X4_readsWall_L80] at hf
    cases hf
  | succ q9 ih =>
    intro x3 g hf H locs ls hP hD hS hl
    rw [f_X4_readsWall_L80] at hf
    refine lv_iload_n hx hb dX4_readsWall_80 rfl (lv_at hl 3 rfl) ?_
    refine lv_if_eq (tgt := 110) hx hb dX4_readsWall_81 (by decide) (fun c15 => ?_) (fun c15 => ?_)
    · have hf := it_t c15 hf
      obtain ⟨rfl, rfl⟩ := zq_j2 hf
      exact e0 _ _ _ hP hD hS (lv_sub hl [3] rfl)
    · have hf := it_f c15 hf
      refine lv_aload_n hx hb dX4_readsWall_84 rfl (lv_at hl 0 rfl) ?_
      refine gf_X4_97 C0 hP 0 wdM_0 rfl dX4_readsWall_85 ?_
      refine lv_iconst (v := 1) hx hb dX4_readsWall_88 (by decide) ?_
      refine lv_icmp_lt (tgt := 100) hx hb dX4_readsWall_89 (by decide) (fun c16 => ?_) (fun c16 => ?_)
      · have hf := it_t c16 hf
        refine lv_aload_n hx hb dX4_readsWall_100 rfl (lv_at hl 0 rfl) ?_
        refine lv_iload_n hx hb dX4_readsWall_101 rfl (lv_at hl 1 rfl) ?_
        refine lv_iload_n hx hb dX4_readsWall_102 rfl (lv_at hl 2 rfl) ?_
        obtain ⟨r18, g19, hc17, hf⟩ := zq_b2_s hf
        refine zVI (ws' := (wdM ad cy g19 u)) (rest := []) C0 (fun _ h => h) zF.id (c_X4_readsModule hc17) hP hD hS my_X4_readsModule kl_X4_116 ⟨rfl, rfl⟩ ⟨Nat.le_of_ble_eq_true rfl, Nat.le_of_ble_eq_true rfl⟩ (q0 := 0) (ci := 4) rfl wdM_0 rfl hl.1 rfl (Nat.le_of_ble_eq_true rfl) dX4_readsWall_103 ⟨Nat.zero_le _, Nat.zero_le _⟩ (fun H locs hP hD hS => ?_)
        refine lv_istore_n (lv' := [(3, .int r18), (0, .ref (ad 0)), (1, .int x1), (2, .int x2)]) hx hb dX4_readsWall_106 rfl hl (by decide) rfl (fun ls hl => ?_)
        refine lv_goto (tgt := 80) hx hb dX4_readsWall_107 (by decide) ?_
        exact ih r18 g19 hf _ _ _ hP hD hS (lv_sub hl [1, 2, 3, 0] rfl)
      · have hf := it_f c16 hf
        refine lv_aload_n hx hb dX4_readsWall_92 rfl (lv_at hl 0 rfl) ?_
        refine gf_X4_94 C0 hP 0 wdM_0 rfl dX4_readsWall_93 ?_
        refine lv_iload_n hx hb dX4_readsWall_96 rfl (lv_at hl 2 rfl) ?_
        refine lv_icmp_ge (tgt := 110) hx hb dX4_readsWall_97 (by decide) (fun c20 => ?_) (fun c20 => ?_)
        · have hf := it_t c20 hf
          obtain ⟨rfl, rfl⟩ := zq_j2 hf
          exact e0 _ _ _ hP hD hS (lv_sub hl [3] rfl)
        · have hf := it_f c20 hf
          refine lv_aload_n hx hb dX4_readsWall_100 rfl (lv_at hl 0 rfl) ?_
          refine lv_iload_n hx hb dX4_readsWall_101 rfl (lv_at hl 1 rfl) ?_
          refine lv_iload_n hx hb dX4_readsWall_102 rfl (lv_at hl 2 rfl) ?_
          obtain ⟨r22, g23, hc21, hf⟩ := zq_b2_s hf
          refine zVI (ws' := (wdM ad cy g23 u)) (rest := []) C0 (fun _ h => h) zF.id (c_X4_readsModule hc21) hP hD hS my_X4_readsModule kl_X4_116 ⟨rfl, rfl⟩ ⟨Nat.le_of_ble_eq_true rfl, Nat.le_of_ble_eq_true rfl⟩ (q0 := 0) (ci := 4) rfl wdM_0 rfl hl.1 rfl (Nat.le_of_ble_eq_true rfl) dX4_readsWall_103 ⟨Nat.zero_le _, Nat.zero_le _⟩ (fun H locs hP hD hS => ?_)
          refine lv_istore_n (lv' := [(3, .int r22), (0, .ref (ad 0)), (1, .int x1), (2, .int x2)]) hx hb dX4_readsWall_106 rfl hl (by decide) rfl (fun ls hl => ?_)
          refine lv_goto (tgt := 80) hx hb dX4_readsWall_107 (by decide) ?_
          exact ih r22 g23 hf _ _ _ hP hD hS (lv_sub hl [1, 2, 3, 0] rfl)
set_option maxHeartbeats 4000000 in
set_option maxRecDepth 100000 in
theorem c_X4_readsWall {l : Launch} {D : va_G} {ad : Nat → Nat} {cy : Nat → ClassId} {g : zS} {u : zJ} {x1 : Int32} {x2 : Int32} {r0 : Int32} {g' : zS} (hf : f_X4_readsWall g x1 x2 = some (r0, g')) : zMI l yX4_readsWall (zW yX4_readsWall cX4_readsWall 4 (some .boolean)) { frames := 2, cells := 0, slots := 0, locals := 49 } D cy [.ref (ad 0), .int x1, .int x2] (wdM ad cy g u) r0 (wdM ad cy g' u) := by
  unfold f_X4_readsWall at hf
  refine zEI (ty := .boolean) (by decide) (Nat.le_of_ble_eq_true rfl) ?_
  intro p e s9 m9 below meth c A Q C0 hret ls hl hP hD
  have hl : lv_has ls 4 [(0, .ref (ad 0)), (1, .int x1), (2, .int x2)] := hl
  have hS : va_S A s9.heap s9.heap [] := va_S.rf
  obtain ⟨hx, hb, hml, hown, hts⟩ := id C0.1
  refine lv_aload_n hx hb dX4_readsWall_0 rfl (lv_at hl 0 rfl) ?_
  refine lv_iconst (v := 0) hx hb dX4_readsWall_1 (by decide) ?_
  obtain ⟨g1, eg1, hf⟩ := zq_lt_s hf
  refine pf_X4_94 (ws' := (wdM ad cy g1 u)) C0 hP hD hS 0 wdM_0 (Nat.le_of_ble_eq_true rfl) (by rw [eg1]; rfl) dX4_readsWall_2 (fun H locs hP hD hS => ?_)
  refine lv_aload_n hx hb dX4_readsWall_5 rfl (lv_at hl 0 rfl) ?_
  refine lv_iconst (v := 0) hx hb dX4_readsWall_6 (by decide) ?_
  obtain ⟨g2, eg2, hf⟩ := zq_lt_s hf
  refine pf_X4_97 (ws' := (wdM ad cy g2 u)) C0 hP hD hS 0 wdM_0 (Nat.le_of_ble_eq_true rfl) (by rw [eg2]; rfl) dX4_readsWall_7 (fun H locs hP hD hS => ?_)
  refine lv_aload_n hx hb dX4_readsWall_10 rfl (lv_at hl 0 rfl) ?_
  refine lv_iconst (v := 0) hx hb dX4_readsWall_11 (by decide) ?_
  obtain ⟨g3, eg3, hf⟩ := zq_lt_s hf
  refine pf_X4_108 (ws' := (wdM ad cy g3 u)) C0 hP hD hS 0 wdM_0 (Nat.le_of_ble_eq_true rfl) (by rw [eg3]; rfl) dX4_readsWall_12 (fun H locs hP hD hS => ?_)
  refine lv_aload_n hx hb dX4_readsWall_15 rfl (lv_at hl 0 rfl) ?_
  refine lv_iload_n hx hb dX4_readsWall_16 rfl (lv_at hl 1 rfl) ?_
  refine lv_iload_n hx hb dX4_readsWall_17 rfl (lv_at hl 2 rfl) ?_
  obtain ⟨r5, hc4, hf⟩ := zq_b1_s hf
  refine zVI (ws' := (wdM ad cy g3 u)) (rest := []) C0 (fun _ h => h) zF.id (c_X4_codeAt hc4) hP hD hS my_X4_codeAt kl_X4_100 ⟨rfl, rfl⟩ ⟨Nat.le_of_ble_eq_true rfl, Nat.le_of_ble_eq_true rfl⟩ (q0 := 0) (ci := 4) rfl wdM_0 rfl hl.1 rfl (Nat.le_of_ble_eq_true rfl) dX4_readsWall_18 ⟨Nat.zero_le _, Nat.zero_le _⟩ (fun H locs hP hD hS => ?_)
  refine lv_bipush (v := 119) hx hb dX4_readsWall_21 (by decide) ?_
  refine lv_icmp_eq (tgt := 28) hx hb dX4_readsWall_23 (by decide) (fun c6 => ?_) (fun c6 => ?_)
  · have hf := it_t c6 hf
    refine lv_aload_n hx hb dX4_readsWall_28 rfl (lv_at hl 0 rfl) ?_
    refine lv_dup hx hb dX4_readsWall_29 rfl ?_
    refine gf_X4_94 C0 hP 0 wdM_0 rfl dX4_readsWall_30 ?_
    refine lv_iconst (v := 1) hx hb dX4_readsWall_33 (by decide) ?_
    refine lv_iadd hx hb dX4_readsWall_34 ?_
    obtain ⟨g7, eg7, hf⟩ := zq_lt_s hf
    refine pf_X4_94 (ws' := (wdM ad cy g7 u)) C0 hP hD hS 0 wdM_0 (Nat.le_of_ble_eq_true rfl) (by rw [eg7]; rfl) dX4_readsWall_35 (fun H locs hP hD hS => ?_)
    refine lv_aload_n hx hb dX4_readsWall_38 rfl (lv_at hl 0 rfl) ?_
    refine lv_aload_n hx hb dX4_readsWall_39 rfl (lv_at hl 0 rfl) ?_
    refine lv_iload_n hx hb dX4_readsWall_40 rfl (lv_at hl 1 rfl) ?_
    refine lv_iload_n hx hb dX4_readsWall_41 rfl (lv_at hl 2 rfl) ?_
    obtain ⟨r9, hc8, hf⟩ := zq_b1_s hf
    refine zVI (ws' := (wdM ad cy g7 u)) (rest := [.ref (ad 0)]) C0 (fun _ h => h) zF.id (c_X4_codeAt hc8) hP hD hS my_X4_codeAt kl_X4_100 ⟨rfl, rfl⟩ ⟨Nat.le_of_ble_eq_true rfl, Nat.le_of_ble_eq_true rfl⟩ (q0 := 0) (ci := 4) rfl wdM_0 rfl hl.1 rfl (Nat.le_of_ble_eq_true rfl) dX4_readsWall_42 ⟨Nat.zero_le _, Nat.zero_le _⟩ (fun H locs hP hD hS => ?_)
    refine lv_bipush (v := 48) hx hb dX4_readsWall_45 (by decide) ?_
    refine lv_isub hx hb dX4_readsWall_47 ?_
    obtain ⟨g10, eg10, hf⟩ := zq_lt_s hf
    refine pf_X4_111 (ws' := (wdM ad cy g10 u)) C0 hP hD hS 0 wdM_0 (Nat.le_of_ble_eq_true rfl) (by rw [eg10]; rfl) dX4_readsWall_48 (fun H locs hP hD hS => ?_)
    refine lv_aload_n hx hb dX4_readsWall_51 rfl (lv_at hl 0 rfl) ?_
    refine gf_X4_111 C0 hP 0 wdM_0 rfl dX4_readsWall_52 ?_
    refine lv_i2l hx hb dX4_readsWall_55 rfl ?_
    refine lv_lconst (v := 1) hx hb dX4_readsWall_56 (by decide) ?_
    refine lv_ldc2 hx hb hown (hts _ kc_X4_114) dX4_readsWall_57 ?_
    obtain ⟨r12, hc11, hf⟩ := zq_b1_s hf
    refine zSI (ws' := (wdM ad cy g10 u)) (rest := []) C0 (fun _ h => h) zF.nil (c_X4_in hc11) hP hD hS my_X4_in kl_X4_87 ⟨rfl, rfl⟩ ⟨Nat.le_of_ble_eq_true rfl, Nat.le_of_ble_eq_true rfl⟩ rfl hl.1 rfl (Nat.le_of_ble_eq_true rfl) dX4_readsWall_60 ⟨Nat.zero_le _, Nat.zero_le _⟩ (fun H locs hP hD hS => ?_)
    refine lv_if_ne (tgt := 68) hx hb dX4_readsWall_63 (by decide) (fun c13 => ?_) (fun c13 => ?_)
    · have hf := it_f c13 hf
      refine lv_aload_n hx hb dX4_readsWall_68 rfl (lv_at hl 0 rfl) ?_
      refine lv_dup hx hb dX4_readsWall_69 rfl ?_
      refine gf_X4_94 C0 hP 0 wdM_0 rfl dX4_readsWall_70 ?_
      refine lv_iconst (v := 1) hx hb dX4_readsWall_73 (by decide) ?_
      refine lv_iadd hx hb dX4_readsWall_74 ?_
      obtain ⟨g14, eg14, hf⟩ := zq_lt_s hf
      refine pf_X4_94 (ws' := (wdM ad cy g14 u)) C0 hP hD hS 0 wdM_0 (Nat.le_of_ble_eq_true rfl) (by rw [eg14]; rfl) dX4_readsWall_75 (fun H locs hP hD hS => ?_)
      refine lv_iconst (v := 1) hx hb dX4_readsWall_78 (by decide) ?_
      refine lv_istore_n (lv' := [(3, .int 1), (0, .ref (ad 0)), (1, .int x1), (2, .int x2)]) hx hb dX4_readsWall_79 rfl hl (by decide) rfl (fun ls hl => ?_)
      obtain ⟨y25, g26, hL24, hf⟩ := zq_b2_s hf
      refine w_X4_readsWall_L80 C0 (fun H locs ls hP hD hS hl => ?_) 100 1 g14 hL24 _ _ _ hP hD hS (lv_sub hl [1, 2, 3, 0] rfl)
      refine lv_iload_n hx hb dX4_readsWall_110 rfl (lv_at hl 0 rfl) ?_
      obtain ⟨h27, hf⟩ := zq_z_s hf
      obtain ⟨rfl, rfl⟩ := zq_j2 hf
      exact hret _ _ _ _ (zq_nz h27) dX4_readsWall_111 hP hD hS
    · have hf := it_t c13 hf
      refine lv_iconst (v := 0) hx hb dX4_readsWall_66 (by decide) ?_
      obtain ⟨rfl, rfl⟩ := zq_j2 hf
      exact hret _ _ _ _ rfl dX4_readsWall_67 hP hD hS
  · have hf := it_f c6 hf
    refine lv_iconst (v := 0) hx hb dX4_readsWall_26 (by decide) ?_
    obtain ⟨rfl, rfl⟩ := zq_j2 hf
    exact hret _ _ _ _ rfl dX4_readsWall_27 hP hD hS

def f_X4_isBeyond  (x0 : Int32) (x1 : Int64) (x3 : Int32) : Option (Int32) :=
  if x0 < 0 then (
  some 1) else (
  if (lg_cmp x1 0) < 0 then (
  some 1) else (
  if (lg_cmp ((Int32.toInt64 x0) + x1) (Int32.toInt64 x3)) ≤ 0 then (
  some 0) else (
  some 1)))
set_option maxHeartbeats 4000000 in
set_option maxRecDepth 100000 in
theorem c_X4_isBeyond {l : Launch} {D : va_G} {cy : Nat → ClassId}   {x0 : Int32} {x1 : Int64} {x3 : Int32} {r0 : Int32} (hf : f_X4_isBeyond x0 x1 x3 = some r0) : zMI l yX4_isBeyond (zW yX4_isBeyond cX4_isBeyond 4 (some .boolean)) { frames := 0, cells := 0, slots := 0, locals := 0 } D cy [.int x0, .long x1, .int x3] [] r0 [] := by
  unfold f_X4_isBeyond at hf
  refine zEI (ty := .boolean) (by decide) (Nat.le_of_ble_eq_true rfl) ?_
  intro p e s9 m9 below meth c A Q C0 hret ls hl hP hD
  have hl : lv_has ls 4 [(0, .int x0), (1, .long x1), (3, .int x3)] := hl
  have hS : va_S A s9.heap s9.heap [] := va_S.rf
  obtain ⟨hx, hb, hml, hown, hts⟩ := id C0.1
  refine lv_iload_n hx hb dX4_isBeyond_0 rfl (lv_at hl 0 rfl) ?_
  refine lv_if_lt (tgt := 20) hx hb dX4_isBeyond_1 (by decide) (fun c1 => ?_) (fun c1 => ?_)
  · have hf := it_t c1 hf
    refine lv_iconst (v := 1) hx hb dX4_isBeyond_20 (by decide) ?_
    refine lv_goto (tgt := 25) hx hb dX4_isBeyond_21 (by decide) ?_
    obtain rfl := Option.some.inj hf
    exact hret _ _ _ _ rfl dX4_isBeyond_25 hP hD hS
  · have hf := it_f c1 hf
    refine lv_lload_n hx hb dX4_isBeyond_4 rfl (lv_at hl 1 rfl) ?_
    refine lv_lconst (v := 0) hx hb dX4_isBeyond_5 (by decide) ?_
    refine W.lcmp hx hb dX4_isBeyond_6 ?_
    refine lv_if_lt (tgt := 20) hx hb dX4_isBeyond_7 (by decide) (fun c2 => ?_) (fun c2 => ?_)
    · have hf := it_t c2 hf
      refine lv_iconst (v := 1) hx hb dX4_isBeyond_20 (by decide) ?_
      refine lv_goto (tgt := 25) hx hb dX4_isBeyond_21 (by decide) ?_
      obtain rfl := Option.some.inj hf
      exact hret _ _ _ _ rfl dX4_isBeyond_25 hP hD hS
    · have hf := it_f c2 hf
      refine lv_iload_n hx hb dX4_isBeyond_10 rfl (lv_at hl 0 rfl) ?_
      refine lv_i2l hx hb dX4_isBeyond_11 rfl ?_
      refine lv_lload_n hx hb dX4_isBeyond_12 rfl (lv_at hl 1 rfl) ?_
      refine lv_ladd hx hb dX4_isBeyond_13 ?_
      refine lv_iload_n hx hb dX4_isBeyond_14 rfl (lv_at hl 2 rfl) ?_
      refine lv_i2l hx hb dX4_isBeyond_15 rfl ?_
      refine W.lcmp hx hb dX4_isBeyond_16 ?_
      refine lv_if_le (tgt := 24) hx hb dX4_isBeyond_17 (by decide) (fun c3 => ?_) (fun c3 => ?_)
      · have hf := it_t c3 hf
        refine lv_iconst (v := 0) hx hb dX4_isBeyond_24 (by decide) ?_
        obtain rfl := Option.some.inj hf
        exact hret _ _ _ _ rfl dX4_isBeyond_25 hP hD hS
      · have hf := it_f c3 hf
        refine lv_iconst (v := 1) hx hb dX4_isBeyond_20 (by decide) ?_
        refine lv_goto (tgt := 25) hx hb dX4_isBeyond_21 (by decide) ?_
        obtain rfl := Option.some.inj hf
        exact hret _ _ _ _ rfl dX4_isBeyond_25 hP hD hS

def f_X4_cellsBarred_J25 (j1 : Int32) (j3 : Int32) (j4 : Int64) (g : zS) : Option (Int32 × zS) :=
  zq_rd (g 26) 4 j1 (fun v4 =>
  if 0 ≤ v4 then (
  if 0 ≤ (lg_cmp j4 0) then (
  zq_rd (g 26) 4 j1 (fun v8 =>
  zq_b1 (f_X4_isBeyond j3 j4 v8) (fun r11 =>
  if r11 = 0 then (
  some (0, g)) else (
  zq_b2 (f_X4_failed g 3) (fun r14 g15 =>
  some (r14, g15)))))) else (
  zq_b2 (f_X4_failed g 4) (fun r17 g18 =>
  some (r17, g18)))) else (
  zq_b2 (f_X4_failed g 1) (fun r20 g21 =>
  some (r20, g21))))
def f_X4_cellsBarred (g : zS) (x1 : Int32) (x2 : Int32) (x3 : Int32) (x4 : Int64) : Option (Int32 × zS) :=
  zq_rd (g 26) 4 x1 (fun v1 =>
  if v1 < 0 then (
  f_X4_cellsBarred_J25 x1 x3 x4 g) else (
  zq_rd (g 27) 4 x1 (fun v22 =>
  if v22 = x2 then (
  f_X4_cellsBarred_J25 x1 x3 x4 g) else (
  zq_b2 (f_X4_failed g 2) (fun r26 g27 =>
  some (r26, g27))))))
set_option maxHeartbeats 4000000 in
set_option maxRecDepth 100000 in
theorem c_X4_cellsBarred {l : Launch} {D : va_G} {ad : Nat → Nat} {cy : Nat → ClassId} {g : zS} {u : zJ} {x1 : Int32} {x2 : Int32} {x3 : Int32} {x4 : Int64} {r0 : Int32} {g' : zS} (hf : f_X4_cellsBarred g x1 x2 x3 x4 = some (r0, g')) : zMI l yX4_cellsBarred (zW yX4_cellsBarred cX4_cellsBarred 6 (some .int)) { frames := 1, cells := 0, slots := 0, locals := 23 } D cy [.ref (ad 0), .int x1, .int x2, .int x3, .long x4] (wdM ad cy g u) r0 (wdM ad cy g' u) := by
  unfold f_X4_cellsBarred at hf
  refine zEI (ty := .int) (by decide) (Nat.le_of_ble_eq_true rfl) ?_
  intro p e s9 m9 below meth c A Q C0 hret ls hl hP hD
  have hl : lv_has ls 6 [(0, .ref (ad 0)), (1, .int x1), (2, .int x2), (3, .int x3), (4, .long x4)] := hl
  have hS : va_S A s9.heap s9.heap [] := va_S.rf
  obtain ⟨hx, hb, hml, hown, hts⟩ := id C0.1
  have hj25 : ∀ (j1 : Int32) (j3 : Int32) (j4 : Int64) (g : zS), f_X4_cellsBarred_J25 j1 j3 j4 g = some (r0, g') → ∀ (H : Heap) (locs : List Loc) (ls : Array Slot), va_P D vwCl (wdM ad cy g u) H → va_D A (wdM ad cy g u) → va_S A s9.heap H locs → lv_has ls 6 [(0, .ref (ad 0)), (1, .int j1), (3, .int j3), (4, .long j4)] → W p l e { frames := 1, cells := 0, slots := 0, locals := 23 } s9 m9 [.ref (ad 0), .int x1, .int x2, .int x3, .long x4].toArray below meth c H locs 0 0 Q (F0 m9 25 ls []) := by
    intro j1 j3 j4 g hf H locs ls hP hD hS hl
    unfold f_X4_cellsBarred_J25 at hf
    refine lv_aload_n hx hb dX4_cellsBarred_25 rfl (lv_at hl 0 rfl) ?_
    refine gf_X4_62 C0 hP 0 wdM_0 rfl dX4_cellsBarred_26 ?_
    refine lv_iload_n hx hb dX4_cellsBarred_29 rfl (lv_at hl 1 rfl) ?_
    obtain ⟨v4, ev4, h5, hf⟩ := zq_rd_s hf
    refine zia C0 hP 18 wdM_18 ev4 h5 dX4_cellsBarred_30 ?_
    refine lv_if_ge (tgt := 40) hx hb dX4_cellsBarred_31 (by decide) (fun c6 => ?_) (fun c6 => ?_)
    · have hf := it_t c6 hf
      refine lv_lload hx hb dX4_cellsBarred_40 (lv_at hl 3 rfl) ?_
      refine lv_lconst (v := 0) hx hb dX4_cellsBarred_42 (by decide) ?_
      refine W.lcmp hx hb dX4_cellsBarred_43 ?_
      refine lv_if_ge (tgt := 53) hx hb dX4_cellsBarred_44 (by decide) (fun c7 => ?_) (fun c7 => ?_)
      · have hf := it_t c7 hf
        refine lv_iload_n hx hb dX4_cellsBarred_53 rfl (lv_at hl 2 rfl) ?_
        refine lv_lload hx hb dX4_cellsBarred_54 (lv_at hl 3 rfl) ?_
        refine lv_aload_n hx hb dX4_cellsBarred_56 rfl (lv_at hl 0 rfl) ?_
        refine gf_X4_62 C0 hP 0 wdM_0 rfl dX4_cellsBarred_57 ?_
        refine lv_iload_n hx hb dX4_cellsBarred_60 rfl (lv_at hl 1 rfl) ?_
        obtain ⟨v8, ev8, h9, hf⟩ := zq_rd_s hf
        refine zia C0 hP 18 wdM_18 ev8 h9 dX4_cellsBarred_61 ?_
        obtain ⟨r11, hc10, hf⟩ := zq_b1_s hf
        refine zSI (ws' := (wdM ad cy g u)) (rest := []) C0 (fun _ h => h) zF.nil (c_X4_isBeyond hc10) hP hD hS my_X4_isBeyond kl_X4_124 ⟨rfl, rfl⟩ ⟨Nat.le_of_ble_eq_true rfl, Nat.le_of_ble_eq_true rfl⟩ rfl hl.1 rfl (Nat.le_of_ble_eq_true rfl) dX4_cellsBarred_62 ⟨Nat.zero_le _, Nat.zero_le _⟩ (fun H locs hP hD hS => ?_)
        refine lv_if_eq (tgt := 76) hx hb dX4_cellsBarred_65 (by decide) (fun c12 => ?_) (fun c12 => ?_)
        · have hf := it_t c12 hf
          refine lv_iconst (v := 0) hx hb dX4_cellsBarred_76 (by decide) ?_
          obtain ⟨rfl, rfl⟩ := zq_j2 hf
          exact hret _ _ _ _ rfl dX4_cellsBarred_77 hP hD hS
        · have hf := it_f c12 hf
          refine lv_aload_n hx hb dX4_cellsBarred_68 rfl (lv_at hl 0 rfl) ?_
          refine lv_iconst (v := 3) hx hb dX4_cellsBarred_69 (by decide) ?_
          obtain ⟨r14, g15, hc13, hf⟩ := zq_b2_s hf
          refine zVI (ws' := (wdM ad cy g15 u)) (rest := []) C0 (fun _ h => h) zF.id (c_X4_failed hc13) hP hD hS my_X4_failed kl_X4_120 ⟨rfl, rfl⟩ ⟨Nat.le_of_ble_eq_true rfl, Nat.le_of_ble_eq_true rfl⟩ (q0 := 0) (ci := 4) rfl wdM_0 rfl hl.1 rfl (Nat.le_of_ble_eq_true rfl) dX4_cellsBarred_70 ⟨Nat.zero_le _, Nat.zero_le _⟩ (fun H locs hP hD hS => ?_)
          refine lv_goto (tgt := 77) hx hb dX4_cellsBarred_73 (by decide) ?_
          obtain ⟨rfl, rfl⟩ := zq_j2 hf
          exact hret _ _ _ _ rfl dX4_cellsBarred_77 hP hD hS
      · have hf := it_f c7 hf
        refine lv_aload_n hx hb dX4_cellsBarred_47 rfl (lv_at hl 0 rfl) ?_
        refine lv_iconst (v := 4) hx hb dX4_cellsBarred_48 (by decide) ?_
        obtain ⟨r17, g18, hc16, hf⟩ := zq_b2_s hf
        refine zVI (ws' := (wdM ad cy g18 u)) (rest := []) C0 (fun _ h => h) zF.id (c_X4_failed hc16) hP hD hS my_X4_failed kl_X4_120 ⟨rfl, rfl⟩ ⟨Nat.le_of_ble_eq_true rfl, Nat.le_of_ble_eq_true rfl⟩ (q0 := 0) (ci := 4) rfl wdM_0 rfl hl.1 rfl (Nat.le_of_ble_eq_true rfl) dX4_cellsBarred_49 ⟨Nat.zero_le _, Nat.zero_le _⟩ (fun H locs hP hD hS => ?_)
        obtain ⟨rfl, rfl⟩ := zq_j2 hf
        exact hret _ _ _ _ rfl dX4_cellsBarred_52 hP hD hS
    · have hf := it_f c6 hf
      refine lv_aload_n hx hb dX4_cellsBarred_34 rfl (lv_at hl 0 rfl) ?_
      refine lv_iconst (v := 1) hx hb dX4_cellsBarred_35 (by decide) ?_
      obtain ⟨r20, g21, hc19, hf⟩ := zq_b2_s hf
      refine zVI (ws' := (wdM ad cy g21 u)) (rest := []) C0 (fun _ h => h) zF.id (c_X4_failed hc19) hP hD hS my_X4_failed kl_X4_120 ⟨rfl, rfl⟩ ⟨Nat.le_of_ble_eq_true rfl, Nat.le_of_ble_eq_true rfl⟩ (q0 := 0) (ci := 4) rfl wdM_0 rfl hl.1 rfl (Nat.le_of_ble_eq_true rfl) dX4_cellsBarred_36 ⟨Nat.zero_le _, Nat.zero_le _⟩ (fun H locs hP hD hS => ?_)
      obtain ⟨rfl, rfl⟩ := zq_j2 hf
      exact hret _ _ _ _ rfl dX4_cellsBarred_39 hP hD hS
  refine lv_aload_n hx hb dX4_cellsBarred_0 rfl (lv_at hl 0 rfl) ?_
  refine gf_X4_62 C0 hP 0 wdM_0 rfl dX4_cellsBarred_1 ?_
  refine lv_iload_n hx hb dX4_cellsBarred_4 rfl (lv_at hl 1 rfl) ?_
  obtain ⟨v1, ev1, h2, hf⟩ := zq_rd_s hf
  refine zia C0 hP 18 wdM_18 ev1 h2 dX4_cellsBarred_5 ?_
  refine lv_if_lt (tgt := 25) hx hb dX4_cellsBarred_6 (by decide) (fun c3 => ?_) (fun c3 => ?_)
  · have hf := it_t c3 hf
    exact hj25 x1 x3 x4 g hf _ _ _ hP hD hS (lv_sub hl [0, 1, 3, 4] rfl)
  · have hf := it_f c3 hf
    refine lv_aload_n hx hb dX4_cellsBarred_9 rfl (lv_at hl 0 rfl) ?_
    refine gf_X4_65 C0 hP 0 wdM_0 rfl dX4_cellsBarred_10 ?_
    refine lv_iload_n hx hb dX4_cellsBarred_13 rfl (lv_at hl 1 rfl) ?_
    obtain ⟨v22, ev22, h23, hf⟩ := zq_rd_s hf
    refine zia C0 hP 19 wdM_19 ev22 h23 dX4_cellsBarred_14 ?_
    refine lv_iload_n hx hb dX4_cellsBarred_15 rfl (lv_at hl 2 rfl) ?_
    refine lv_icmp_eq (tgt := 25) hx hb dX4_cellsBarred_16 (by decide) (fun c24 => ?_) (fun c24 => ?_)
    · have hf := it_t c24 hf
      exact hj25 x1 x3 x4 g hf _ _ _ hP hD hS (lv_sub hl [0, 1, 3, 4] rfl)
    · have hf := it_f c24 hf
      refine lv_aload_n hx hb dX4_cellsBarred_19 rfl (lv_at hl 0 rfl) ?_
      refine lv_iconst (v := 2) hx hb dX4_cellsBarred_20 (by decide) ?_
      obtain ⟨r26, g27, hc25, hf⟩ := zq_b2_s hf
      refine zVI (ws' := (wdM ad cy g27 u)) (rest := []) C0 (fun _ h => h) zF.id (c_X4_failed hc25) hP hD hS my_X4_failed kl_X4_120 ⟨rfl, rfl⟩ ⟨Nat.le_of_ble_eq_true rfl, Nat.le_of_ble_eq_true rfl⟩ (q0 := 0) (ci := 4) rfl wdM_0 rfl hl.1 rfl (Nat.le_of_ble_eq_true rfl) dX4_cellsBarred_21 ⟨Nat.zero_le _, Nat.zero_le _⟩ (fun H locs hP hD hS => ?_)
      obtain ⟨rfl, rfl⟩ := zq_j2 hf
      exact hret _ _ _ _ rfl dX4_cellsBarred_24 hP hD hS

def f_X4_noSheet  (x0 : Int32) : Option (Int32) :=
  zq_b1 (f_X4_in (Int32.toInt64 x0) 0 3) (fun r2 =>
  if r2 = 0 then (
  some 1) else (
  some 0))
set_option maxHeartbeats 4000000 in
set_option maxRecDepth 100000 in
theorem c_X4_noSheet {l : Launch} {D : va_G} {cy : Nat → ClassId}   {x0 : Int32} {r0 : Int32} (hf : f_X4_noSheet x0 = some r0) : zMI l yX4_noSheet (zW yX4_noSheet cX4_noSheet 1 (some .boolean)) { frames := 1, cells := 0, slots := 0, locals := 25 } D cy [.int x0] [] r0 [] := by
  unfold f_X4_noSheet at hf
  refine zEI (ty := .boolean) (by decide) (Nat.le_of_ble_eq_true rfl) ?_
  intro p e s9 m9 below meth c A Q C0 hret ls hl hP hD
  have hl : lv_has ls 1 [(0, .int x0)] := hl
  have hS : va_S A s9.heap s9.heap [] := va_S.rf
  obtain ⟨hx, hb, hml, hown, hts⟩ := id C0.1
  refine lv_iload_n hx hb dX4_noSheet_0 rfl (lv_at hl 0 rfl) ?_
  refine lv_i2l hx hb dX4_noSheet_1 rfl ?_
  refine lv_lconst (v := 0) hx hb dX4_noSheet_2 (by decide) ?_
  refine lv_ldc2 hx hb hown (hts _ kc_X4_203) dX4_noSheet_3 ?_
  obtain ⟨r2, hc1, hf⟩ := zq_b1_s hf
  refine zSI (ws' := []) (rest := []) C0 (fun _ h => h) zF.nil (c_X4_in hc1) hP hD hS my_X4_in kl_X4_87 ⟨rfl, rfl⟩ ⟨Nat.le_of_ble_eq_true rfl, Nat.le_of_ble_eq_true rfl⟩ rfl hl.1 rfl (Nat.le_of_ble_eq_true rfl) dX4_noSheet_6 ⟨Nat.zero_le _, Nat.zero_le _⟩ (fun H locs hP hD hS => ?_)
  refine lv_if_ne (tgt := 16) hx hb dX4_noSheet_9 (by decide) (fun c3 => ?_) (fun c3 => ?_)
  · have hf := it_f c3 hf
    refine lv_iconst (v := 0) hx hb dX4_noSheet_16 (by decide) ?_
    obtain rfl := Option.some.inj hf
    exact hret _ _ _ _ rfl dX4_noSheet_17 hP hD hS
  · have hf := it_t c3 hf
    refine lv_iconst (v := 1) hx hb dX4_noSheet_12 (by decide) ?_
    refine lv_goto (tgt := 17) hx hb dX4_noSheet_13 (by decide) ?_
    obtain rfl := Option.some.inj hf
    exact hret _ _ _ _ rfl dX4_noSheet_17 hP hD hS

def f_X4_wall_L166 (x7 : Int32) : Nat → Int32 → Int32 → zS → Option (Int32 × zS)
  | 0, _, _, _ => none
  | q9 + 1, x6, x8, g =>
  zq_rd (g 6) 4 x7 (fun v31 =>
  if v31 ≤ x8 then (
  some (x6, g)) else (
  zq_rd (g 16) 16 x6 (fun v34 =>
  zq_in 16 x6 (zq_lt (va_up g 8 (upd (g 8) (Int32.toNatClampNeg x6) v34)) (fun g37 =>
  zq_in 16 x6 (zq_lt (va_up g37 9 (upd (g37 9) (Int32.toNatClampNeg x6) x7)) (fun g39 =>
  f_X4_wall_L166 x7 q9 (x6 + 1) (x8 + 1) g39)))))))
def f_X4_wall_L109  : Nat → Int32 → Int32 → zS → Option (zS)
  | 0, _, _, _ => none
  | q9 + 1, x6, x7, g =>
  if (g 1 0) ≤ x7 then (
  some g) else (
  zq_rd (g 14) 4 x7 (fun v19 =>
  zq_in 4 x7 (zq_lt (va_up g 4 (upd (g 4) (Int32.toNatClampNeg x7) v19)) (fun g22 =>
  zq_rd (g22 15) 4 x7 (fun v23 =>
  zq_in 4 x7 (zq_lt (va_up g22 6 (upd (g22 6) (Int32.toNatClampNeg x7) v23)) (fun g26 =>
  zq_in 4 x7 (zq_lt (va_up g26 5 (upd (g26 5) (Int32.toNatClampNeg x7) x6)) (fun g28 =>
  zq_in 4 x7 (zq_lt (va_up g28 7 (upd (g28 7) (Int32.toNatClampNeg x7) 0)) (fun g30 =>
  zq_b2 (f_X4_wall_L166 x7 100 x6 0 g30) (fun y41 g42 =>
  f_X4_wall_L109 q9 y41 (x7 + 1) g42))))))))))))
def f_X4_wall (g : zS) (x1 : Int32) (x2 : Int32) (x3 : Int32) (x4 : Int32) : Option (Int32 × zS) :=
  zq_b1 (f_X4_noSheet x1) (fun r2 =>
  if r2 = 0 then (
  zq_b1 (f_X4_in (Int32.toInt64 x2) 0 2) (fun r5 =>
  if r5 = 0 then (
  zq_b2 (f_X4_refused g (-2)) (fun r53 g54 =>
  some (r53, g54))) else (
  zq_b2 (f_X4_cellsBarred g x1 x2 x3 (Int32.toInt64 x4)) (fun r8 g9 =>
  if 0 ≤ r8 then (
  zq_b2 (f_X4_readsWall g9 ((60 * x1) + x3) x4) (fun r12 g13 =>
  if r12 = 0 then (
  zq_b2 (f_X4_refused g13 ((-100) - (g13 10 0))) (fun r50 g51 =>
  some (r50, g51))) else (
  zq_lt (va_up g13 1 (fun _ => (g13 12 0))) (fun g15 =>
  zq_lt (va_up g15 2 (fun _ => (g15 13 0))) (fun g16 =>
  zq_lt (va_up g16 3 (fun _ => (g16 11 0))) (fun g17 =>
  zq_b1 (f_X4_wall_L109 100 0 0 g17) (fun g44 =>
  zq_lt (va_up g44 21 (fun _ => 0)) (fun g45 =>
  zq_b2 (f_X4_refused g45 (g45 1 0)) (fun r47 g48 =>
  some (r47, g48)))))))))) else (
  some (r8, g9)))))) else (
  zq_b2 (f_X4_refused g (-1)) (fun r56 g57 =>
  some (r56, g57))))
set_option maxHeartbeats 4000000 in
set_option maxRecDepth 100000 in
theorem w_X4_wall_L166 {l : Launch} {p : Program} {e : Env} {s9 : State} {m9 : MethodId} {ag : Array Value} {below : List Frame} {meth : Method} {c : Code} {A : Nat → Prop} {Q : State → Prop} {D : va_G} {ad : Nat → Nat} {cy : Nat → ClassId} {u : zJ} {x7 : Int32} (C0 : zCx p s9 m9 ag c cX4_wall 9 RX4 D cy A)  {o6 : Int32} {go : zS} (e0 : ∀ (H : Heap) (locs : List Loc) (ls : Array Slot), va_P D vwCl (wdM ad cy go u) H → va_D A (wdM ad cy go u) → va_S A s9.heap H locs → lv_has ls 9 [(0, .ref (ad 0)), (6, .int o6), (7, .int x7)] → W p l e { frames := 3, cells := 0, slots := 0, locals := 72 } s9 m9 ag below meth c H locs 0 0 Q (F0 m9 210 ls [])) : ∀ (q9 : Nat) (x6 : Int32) (x8 : Int32) (g : zS), f_X4_wall_L166 x7 q9 x6 x8 g = some (o6, go) → ∀ (H : Heap) (locs : List Loc) (ls : Array Slot), va_P D vwCl (wdM ad cy g u) H → va_D A (wdM ad cy g u) → va_S A s9.heap H locs → lv_has ls 9 [(0, .ref (ad 0)), (6, .int x6), (7, .int x7), (8, .int x8)] → W p l e { frames := 3, cells := 0, slots := 0, locals := 72 } s9 m9 ag below meth c H locs 0 0 Q (F0 m9 166 ls []) := by
  obtain ⟨hx, hb, hml, hown, hts⟩ := id C0.1
  intro q9
  induction q9 with
  | zero =>
    intro x6 x8 g hf
    rw [f_X4_wall_L166] at hf
    cases hf
  | succ q9 ih =>
    intro x6 x8 g hf H locs ls hP hD hS hl
    rw [f_X4_wall_L166] at hf
    refine lv_iload hx hb dX4_wall_166 (lv_at hl 3 rfl) ?_
    refine lv_aload_n hx hb dX4_wall_168 rfl (lv_at hl 0 rfl) ?_
    refine gf_X4_16 C0 hP 0 wdM_0 rfl dX4_wall_169 ?_
    refine lv_iload hx hb dX4_wall_172 (lv_at hl 2 rfl) ?_
    obtain ⟨v31, ev31, h32, hf⟩ := zq_rd_s hf
    refine zia C0 hP 3 wdM_3 ev31 h32 dX4_wall_174 ?_
    refine lv_icmp_ge (tgt := 210) hx hb dX4_wall_175 (by decide) (fun c33 => ?_) (fun c33 => ?_)
    · have hf := it_t c33 hf
      obtain ⟨rfl, rfl⟩ := zq_j2 hf
      exact e0 _ _ _ hP hD hS (lv_sub hl [0, 1, 2] rfl)
    · have hf := it_f c33 hf
      refine lv_aload_n hx hb dX4_wall_178 rfl (lv_at hl 0 rfl) ?_
      refine gf_X4_22 C0 hP 0 wdM_0 rfl dX4_wall_179 ?_
      refine lv_iload hx hb dX4_wall_182 (lv_at hl 1 rfl) ?_
      refine lv_aload_n hx hb dX4_wall_184 rfl (lv_at hl 0 rfl) ?_
      refine gf_X4_34 C0 hP 0 wdM_0 rfl dX4_wall_185 ?_
      refine lv_iload hx hb dX4_wall_188 (lv_at hl 1 rfl) ?_
      obtain ⟨v34, ev34, h35, hf⟩ := zq_rd_s hf
      refine zia C0 hP 9 wdM_9 ev34 h35 dX4_wall_190 ?_
      obtain ⟨h36, hf⟩ := zq_in_s hf
      obtain ⟨g37, eg37, hf⟩ := zq_lt_s hf
      refine zis (ws' := (wdM ad cy g37 u)) C0 hP hD hS 5 wdM_5 h36 (by rw [eg37]; rfl) dX4_wall_191 (fun H locs hP hD hS => ?_)
      refine lv_aload_n hx hb dX4_wall_192 rfl (lv_at hl 0 rfl) ?_
      refine gf_X4_25 C0 hP 0 wdM_0 rfl dX4_wall_193 ?_
      refine lv_iload hx hb dX4_wall_196 (lv_at hl 1 rfl) ?_
      refine lv_iload hx hb dX4_wall_198 (lv_at hl 2 rfl) ?_
      obtain ⟨h38, hf⟩ := zq_in_s hf
      obtain ⟨g39, eg39, hf⟩ := zq_lt_s hf
      refine zis (ws' := (wdM ad cy g39 u)) C0 hP hD hS 6 wdM_6 h38 (by rw [eg39]; rfl) dX4_wall_200 (fun H locs hP hD hS => ?_)
      refine lv_iinc (v := (x6 + 1)) (lv' := [(6, .int (x6 + 1)), (0, .ref (ad 0)), (7, .int x7), (8, .int x8)]) hx hb dX4_wall_201 hl (k := 1) rfl rfl (by decide) rfl (fun ls hl => ?_)
      refine lv_iinc (v := (x8 + 1)) (lv' := [(8, .int (x8 + 1)), (6, .int (x6 + 1)), (0, .ref (ad 0)), (7, .int x7)]) hx hb dX4_wall_204 hl (k := 3) rfl rfl (by decide) rfl (fun ls hl => ?_)
      refine lv_goto (tgt := 166) hx hb dX4_wall_207 (by decide) ?_
      exact ih (x6 + 1) (x8 + 1) g39 hf _ _ _ hP hD hS (lv_sub hl [2, 1, 3, 0] rfl)
set_option maxHeartbeats 4000000 in
set_option maxRecDepth 100000 in
theorem w_X4_wall_L109 {l : Launch} {p : Program} {e : Env} {s9 : State} {m9 : MethodId} {ag : Array Value} {below : List Frame} {meth : Method} {c : Code} {A : Nat → Prop} {Q : State → Prop} {D : va_G} {ad : Nat → Nat} {cy : Nat → ClassId} {u : zJ} (C0 : zCx p s9 m9 ag c cX4_wall 9 RX4 D cy A)  {go : zS} (e0 : ∀ (H : Heap) (locs : List Loc) (ls : Array Slot), va_P D vwCl (wdM ad cy go u) H → va_D A (wdM ad cy go u) → va_S A s9.heap H locs → lv_has ls 9 [(0, .ref (ad 0))] → W p l e { frames := 3, cells := 0, slots := 0, locals := 72 } s9 m9 ag below meth c H locs 0 0 Q (F0 m9 216 ls [])) : ∀ (q9 : Nat) (x6 : Int32) (x7 : Int32) (g : zS), f_X4_wall_L109 q9 x6 x7 g = some go → ∀ (H : Heap) (locs : List Loc) (ls : Array Slot), va_P D vwCl (wdM ad cy g u) H → va_D A (wdM ad cy g u) → va_S A s9.heap H locs → lv_has ls 9 [(0, .ref (ad 0)), (6, .int x6), (7, .int x7)] → W p l e { frames := 3, cells := 0, slots := 0, locals := 72 } s9 m9 ag below meth c H locs 0 0 Q (F0 m9 109 ls []) := by
  obtain ⟨hx, hb, hml, hown, hts⟩ := id C0.1
  intro q9
  induction q9 with
  | zero =>
    intro x6 x7 g hf
    rw [f_X4_wall_L109] at hf
    cases hf
  | succ q9 ih =>
    intro x6 x7 g hf H locs ls hP hD hS hl
    rw [f_X4_wall_L109] at hf
    refine lv_iload hx hb dX4_wall_109 (lv_at hl 2 rfl) ?_
    refine lv_aload_n hx hb dX4_wall_111 rfl (lv_at hl 0 rfl) ?_
    refine gf_X4_84 C0 hP 0 wdM_0 rfl dX4_wall_112 ?_
    refine lv_icmp_ge (tgt := 216) hx hb dX4_wall_115 (by decide) (fun c18 => ?_) (fun c18 => ?_)
    · have hf := it_t c18 hf
      obtain rfl := Option.some.inj hf
      exact e0 _ _ _ hP hD hS (lv_sub hl [0] rfl)
    · have hf := it_f c18 hf
      refine lv_aload_n hx hb dX4_wall_118 rfl (lv_at hl 0 rfl) ?_
      refine gf_X4_7 C0 hP 0 wdM_0 rfl dX4_wall_119 ?_
      refine lv_iload hx hb dX4_wall_122 (lv_at hl 2 rfl) ?_
      refine lv_aload_n hx hb dX4_wall_124 rfl (lv_at hl 0 rfl) ?_
      refine gf_X4_28 C0 hP 0 wdM_0 rfl dX4_wall_125 ?_
      refine lv_iload hx hb dX4_wall_128 (lv_at hl 2 rfl) ?_
      obtain ⟨v19, ev19, h20, hf⟩ := zq_rd_s hf
      refine zia C0 hP 7 wdM_7 ev19 h20 dX4_wall_130 ?_
      obtain ⟨h21, hf⟩ := zq_in_s hf
      obtain ⟨g22, eg22, hf⟩ := zq_lt_s hf
      refine zis (ws' := (wdM ad cy g22 u)) C0 hP hD hS 1 wdM_1 h21 (by rw [eg22]; rfl) dX4_wall_131 (fun H locs hP hD hS => ?_)
      refine lv_aload_n hx hb dX4_wall_132 rfl (lv_at hl 0 rfl) ?_
      refine gf_X4_16 C0 hP 0 wdM_0 rfl dX4_wall_133 ?_
      refine lv_iload hx hb dX4_wall_136 (lv_at hl 2 rfl) ?_
      refine lv_aload_n hx hb dX4_wall_138 rfl (lv_at hl 0 rfl) ?_
      refine gf_X4_31 C0 hP 0 wdM_0 rfl dX4_wall_139 ?_
      refine lv_iload hx hb dX4_wall_142 (lv_at hl 2 rfl) ?_
      obtain ⟨v23, ev23, h24, hf⟩ := zq_rd_s hf
      refine zia C0 hP 8 wdM_8 ev23 h24 dX4_wall_144 ?_
      obtain ⟨h25, hf⟩ := zq_in_s hf
      obtain ⟨g26, eg26, hf⟩ := zq_lt_s hf
      refine zis (ws' := (wdM ad cy g26 u)) C0 hP hD hS 3 wdM_3 h25 (by rw [eg26]; rfl) dX4_wall_145 (fun H locs hP hD hS => ?_)
      refine lv_aload_n hx hb dX4_wall_146 rfl (lv_at hl 0 rfl) ?_
      refine gf_X4_13 C0 hP 0 wdM_0 rfl dX4_wall_147 ?_
      refine lv_iload hx hb dX4_wall_150 (lv_at hl 2 rfl) ?_
      refine lv_iload hx hb dX4_wall_152 (lv_at hl 1 rfl) ?_
      obtain ⟨h27, hf⟩ := zq_in_s hf
      obtain ⟨g28, eg28, hf⟩ := zq_lt_s hf
      refine zis (ws' := (wdM ad cy g28 u)) C0 hP hD hS 2 wdM_2 h27 (by rw [eg28]; rfl) dX4_wall_154 (fun H locs hP hD hS => ?_)
      refine lv_aload_n hx hb dX4_wall_155 rfl (lv_at hl 0 rfl) ?_
      refine gf_X4_19 C0 hP 0 wdM_0 rfl dX4_wall_156 ?_
      refine lv_iload hx hb dX4_wall_159 (lv_at hl 2 rfl) ?_
      refine lv_iconst (v := 0) hx hb dX4_wall_161 (by decide) ?_
      obtain ⟨h29, hf⟩ := zq_in_s hf
      obtain ⟨g30, eg30, hf⟩ := zq_lt_s hf
      refine zis (ws' := (wdM ad cy g30 u)) C0 hP hD hS 4 wdM_4 h29 (by rw [eg30]; rfl) dX4_wall_162 (fun H locs hP hD hS => ?_)
      refine lv_iconst (v := 0) hx hb dX4_wall_163 (by decide) ?_
      refine lv_istore (lv' := [(8, .int 0), (0, .ref (ad 0)), (6, .int x6), (7, .int x7)]) hx hb dX4_wall_164 hl (by decide) rfl (fun ls hl => ?_)
      obtain ⟨y41, g42, hL40, hf⟩ := zq_b2_s hf
      refine w_X4_wall_L166 C0 (fun H locs ls hP hD hS hl => ?_) 100 x6 0 g30 hL40 _ _ _ hP hD hS (lv_sub hl [1, 2, 3, 0] rfl)
      refine lv_iinc (v := (x7 + 1)) (lv' := [(7, .int (x7 + 1)), (0, .ref (ad 0)), (6, .int y41)]) hx hb dX4_wall_210 hl (k := 2) rfl rfl (by decide) rfl (fun ls hl => ?_)
      refine lv_goto (tgt := 109) hx hb dX4_wall_213 (by decide) ?_
      exact ih y41 (x7 + 1) g42 hf _ _ _ hP hD hS (lv_sub hl [1, 2, 0] rfl)
set_option maxHeartbeats 4000000 in
set_option maxRecDepth 100000 in
theorem c_X4_wall {l : Launch} {D : va_G} {ad : Nat → Nat} {cy : Nat → ClassId} {g : zS} {u : zJ} {x1 : Int32} {x2 : Int32} {x3 : Int32} {x4 : Int32} {r0 : Int32} {g' : zS} (hf : f_X4_wall g x1 x2 x3 x4 = some (r0, g')) : zMI l yX4_wall (zW yX4_wall cX4_wall 9 (some .int)) { frames := 3, cells := 0, slots := 0, locals := 72 } D cy [.ref (ad 0), .int x1, .int x2, .int x3, .int x4] (wdM ad cy g u) r0 (wdM ad cy g' u) := by
  unfold f_X4_wall at hf
  refine zEI (ty := .int) (by decide) (Nat.le_of_ble_eq_true rfl) ?_
  intro p e s9 m9 below meth c A Q C0 hret ls hl hP hD
  have hl : lv_has ls 9 [(0, .ref (ad 0)), (1, .int x1), (2, .int x2), (3, .int x3), (4, .int x4)] := hl
  have hS : va_S A s9.heap s9.heap [] := va_S.rf
  obtain ⟨hx, hb, hml, hown, hts⟩ := id C0.1
  refine lv_iload_n hx hb dX4_wall_0 rfl (lv_at hl 1 rfl) ?_
  obtain ⟨r2, hc1, hf⟩ := zq_b1_s hf
  refine zSI (ws' := (wdM ad cy g u)) (rest := []) C0 (fun _ h => h) zF.nil (c_X4_noSheet hc1) hP hD hS my_X4_noSheet kl_X4_128 ⟨rfl, rfl⟩ ⟨Nat.le_of_ble_eq_true rfl, Nat.le_of_ble_eq_true rfl⟩ rfl hl.1 rfl (Nat.le_of_ble_eq_true rfl) dX4_wall_1 ⟨Nat.zero_le _, Nat.zero_le _⟩ (fun H locs hP hD hS => ?_)
  refine lv_if_eq (tgt := 13) hx hb dX4_wall_4 (by decide) (fun c3 => ?_) (fun c3 => ?_)
  · have hf := it_t c3 hf
    refine lv_iload_n hx hb dX4_wall_13 rfl (lv_at hl 2 rfl) ?_
    refine lv_i2l hx hb dX4_wall_14 rfl ?_
    refine lv_lconst (v := 0) hx hb dX4_wall_15 (by decide) ?_
    refine lv_ldc2 hx hb hown (hts _ kc_X4_135) dX4_wall_16 ?_
    obtain ⟨r5, hc4, hf⟩ := zq_b1_s hf
    refine zSI (ws' := (wdM ad cy g u)) (rest := []) C0 (fun _ h => h) zF.nil (c_X4_in hc4) hP hD hS my_X4_in kl_X4_87 ⟨rfl, rfl⟩ ⟨Nat.le_of_ble_eq_true rfl, Nat.le_of_ble_eq_true rfl⟩ rfl hl.1 rfl (Nat.le_of_ble_eq_true rfl) dX4_wall_19 ⟨Nat.zero_le _, Nat.zero_le _⟩ (fun H locs hP hD hS => ?_)
    refine lv_if_ne (tgt := 32) hx hb dX4_wall_22 (by decide) (fun c6 => ?_) (fun c6 => ?_)
    · have hf := it_f c6 hf
      refine lv_aload_n hx hb dX4_wall_32 rfl (lv_at hl 0 rfl) ?_
      refine lv_iload_n hx hb dX4_wall_33 rfl (lv_at hl 1 rfl) ?_
      refine lv_iload_n hx hb dX4_wall_34 rfl (lv_at hl 2 rfl) ?_
      refine lv_iload_n hx hb dX4_wall_35 rfl (lv_at hl 3 rfl) ?_
      refine lv_iload hx hb dX4_wall_36 (lv_at hl 4 rfl) ?_
      refine lv_i2l hx hb dX4_wall_38 rfl ?_
      obtain ⟨r8, g9, hc7, hf⟩ := zq_b2_s hf
      refine zVI (ws' := (wdM ad cy g9 u)) (rest := []) C0 (fun _ h => h) zF.id (c_X4_cellsBarred hc7) hP hD hS my_X4_cellsBarred kl_X4_137 ⟨rfl, rfl⟩ ⟨Nat.le_of_ble_eq_true rfl, Nat.le_of_ble_eq_true rfl⟩ (q0 := 0) (ci := 4) rfl wdM_0 rfl hl.1 rfl (Nat.le_of_ble_eq_true rfl) dX4_wall_39 ⟨Nat.zero_le _, Nat.zero_le _⟩ (fun H locs hP hD hS => ?_)
      refine lv_istore (lv' := [(5, .int r8), (0, .ref (ad 0)), (1, .int x1), (2, .int x2), (3, .int x3), (4, .int x4)]) hx hb dX4_wall_42 hl (by decide) rfl (fun ls hl => ?_)
      refine lv_iload hx hb dX4_wall_44 (lv_at hl 0 rfl) ?_
      refine lv_if_ge (tgt := 52) hx hb dX4_wall_46 (by decide) (fun c10 => ?_) (fun c10 => ?_)
      · have hf := it_t c10 hf
        refine lv_aload_n hx hb dX4_wall_52 rfl (lv_at hl 1 rfl) ?_
        refine lv_bipush (v := 60) hx hb dX4_wall_53 (by decide) ?_
        refine lv_iload_n hx hb dX4_wall_55 rfl (lv_at hl 2 rfl) ?_
        refine lv_imul hx hb dX4_wall_56 ?_
        refine lv_iload_n hx hb dX4_wall_57 rfl (lv_at hl 4 rfl) ?_
        refine lv_iadd hx hb dX4_wall_58 ?_
        refine lv_iload hx hb dX4_wall_59 (lv_at hl 5 rfl) ?_
        obtain ⟨r12, g13, hc11, hf⟩ := zq_b2_s hf
        refine zVI (ws' := (wdM ad cy g13 u)) (rest := []) C0 (fun _ h => h) zF.id (c_X4_readsWall hc11) hP hD hS my_X4_readsWall kl_X4_141 ⟨rfl, rfl⟩ ⟨Nat.le_of_ble_eq_true rfl, Nat.le_of_ble_eq_true rfl⟩ (q0 := 0) (ci := 4) rfl wdM_0 rfl hl.1 rfl (Nat.le_of_ble_eq_true rfl) dX4_wall_61 ⟨Nat.zero_le _, Nat.zero_le _⟩ (fun H locs hP hD hS => ?_)
        refine lv_if_ne (tgt := 79) hx hb dX4_wall_64 (by decide) (fun c14 => ?_) (fun c14 => ?_)
        · have hf := it_f c14 hf
          refine lv_aload_n hx hb dX4_wall_79 rfl (lv_at hl 1 rfl) ?_
          refine lv_aload_n hx hb dX4_wall_80 rfl (lv_at hl 1 rfl) ?_
          refine gf_X4_97 C0 hP 0 wdM_0 rfl dX4_wall_81 ?_
          obtain ⟨g15, eg15, hf⟩ := zq_lt_s hf
          refine pf_X4_84 (ws' := (wdM ad cy g15 u)) C0 hP hD hS 0 wdM_0 (Nat.le_of_ble_eq_true rfl) (by rw [eg15]; rfl) dX4_wall_84 (fun H locs hP hD hS => ?_)
          refine lv_aload_n hx hb dX4_wall_87 rfl (lv_at hl 1 rfl) ?_
          refine lv_aload_n hx hb dX4_wall_88 rfl (lv_at hl 1 rfl) ?_
          refine gf_X4_108 C0 hP 0 wdM_0 rfl dX4_wall_89 ?_
          obtain ⟨g16, eg16, hf⟩ := zq_lt_s hf
          refine pf_X4_91 (ws' := (wdM ad cy g16 u)) C0 hP hD hS 0 wdM_0 (Nat.le_of_ble_eq_true rfl) (by rw [eg16]; rfl) dX4_wall_92 (fun H locs hP hD hS => ?_)
          refine lv_aload_n hx hb dX4_wall_95 rfl (lv_at hl 1 rfl) ?_
          refine lv_aload_n hx hb dX4_wall_96 rfl (lv_at hl 1 rfl) ?_
          refine gf_X4_111 C0 hP 0 wdM_0 rfl dX4_wall_97 ?_
          obtain ⟨g17, eg17, hf⟩ := zq_lt_s hf
          refine pf_X4_144 (ws' := (wdM ad cy g17 u)) C0 hP hD hS 0 wdM_0 (Nat.le_of_ble_eq_true rfl) (by rw [eg17]; rfl) dX4_wall_100 (fun H locs hP hD hS => ?_)
          refine lv_iconst (v := 0) hx hb dX4_wall_103 (by decide) ?_
          refine lv_istore (lv' := [(6, .int 0), (5, .int r8), (0, .ref (ad 0)), (1, .int x1), (2, .int x2), (3, .int x3), (4, .int x4)]) hx hb dX4_wall_104 hl (by decide) rfl (fun ls hl => ?_)
          refine lv_iconst (v := 0) hx hb dX4_wall_106 (by decide) ?_
          refine lv_istore (lv' := [(7, .int 0), (6, .int 0), (5, .int r8), (0, .ref (ad 0)), (1, .int x1), (2, .int x2), (3, .int x3), (4, .int x4)]) hx hb dX4_wall_107 hl (by decide) rfl (fun ls hl => ?_)
          obtain ⟨g44, hL43, hf⟩ := zq_b1_s hf
          refine w_X4_wall_L109 C0 (fun H locs ls hP hD hS hl => ?_) 100 0 0 g17 hL43 _ _ _ hP hD hS (lv_sub hl [3, 1, 0] rfl)
          refine lv_aload_n hx hb dX4_wall_216 rfl (lv_at hl 0 rfl) ?_
          refine lv_iconst (v := 0) hx hb dX4_wall_217 (by decide) ?_
          obtain ⟨g45, eg45, hf⟩ := zq_lt_s hf
          refine pf_X4_147 (ws' := (wdM ad cy g45 u)) C0 hP hD hS 0 wdM_0 (Nat.le_of_ble_eq_true rfl) (by rw [eg45]; rfl) dX4_wall_218 (fun H locs hP hD hS => ?_)
          refine lv_aload_n hx hb dX4_wall_221 rfl (lv_at hl 0 rfl) ?_
          refine lv_aload_n hx hb dX4_wall_222 rfl (lv_at hl 0 rfl) ?_
          refine gf_X4_84 C0 hP 0 wdM_0 rfl dX4_wall_223 ?_
          obtain ⟨r47, g48, hc46, hf⟩ := zq_b2_s hf
          refine zVI (ws' := (wdM ad cy g48 u)) (rest := []) C0 (fun _ h => h) zF.id (c_X4_refused hc46) hP hD hS my_X4_refused kl_X4_132 ⟨rfl, rfl⟩ ⟨Nat.le_of_ble_eq_true rfl, Nat.le_of_ble_eq_true rfl⟩ (q0 := 0) (ci := 4) rfl wdM_0 rfl hl.1 rfl (Nat.le_of_ble_eq_true rfl) dX4_wall_226 ⟨Nat.zero_le _, Nat.zero_le _⟩ (fun H locs hP hD hS => ?_)
          obtain ⟨rfl, rfl⟩ := zq_j2 hf
          exact hret _ _ _ _ rfl dX4_wall_229 hP hD hS
        · have hf := it_t c14 hf
          refine lv_aload_n hx hb dX4_wall_67 rfl (lv_at hl 1 rfl) ?_
          refine lv_bipush (v := (-100)) hx hb dX4_wall_68 (by decide) ?_
          refine lv_aload_n hx hb dX4_wall_70 rfl (lv_at hl 1 rfl) ?_
          refine gf_X4_94 C0 hP 0 wdM_0 rfl dX4_wall_71 ?_
          refine lv_isub hx hb dX4_wall_74 ?_
          obtain ⟨r50, g51, hc49, hf⟩ := zq_b2_s hf
          refine zVI (ws' := (wdM ad cy g51 u)) (rest := []) C0 (fun _ h => h) zF.id (c_X4_refused hc49) hP hD hS my_X4_refused kl_X4_132 ⟨rfl, rfl⟩ ⟨Nat.le_of_ble_eq_true rfl, Nat.le_of_ble_eq_true rfl⟩ (q0 := 0) (ci := 4) rfl wdM_0 rfl hl.1 rfl (Nat.le_of_ble_eq_true rfl) dX4_wall_75 ⟨Nat.zero_le _, Nat.zero_le _⟩ (fun H locs hP hD hS => ?_)
          obtain ⟨rfl, rfl⟩ := zq_j2 hf
          exact hret _ _ _ _ rfl dX4_wall_78 hP hD hS
      · have hf := it_f c10 hf
        refine lv_iload hx hb dX4_wall_49 (lv_at hl 0 rfl) ?_
        obtain ⟨rfl, rfl⟩ := zq_j2 hf
        exact hret _ _ _ _ rfl dX4_wall_51 hP hD hS
    · have hf := it_t c6 hf
      refine lv_aload_n hx hb dX4_wall_25 rfl (lv_at hl 0 rfl) ?_
      refine lv_bipush (v := (-2)) hx hb dX4_wall_26 (by decide) ?_
      obtain ⟨r53, g54, hc52, hf⟩ := zq_b2_s hf
      refine zVI (ws' := (wdM ad cy g54 u)) (rest := []) C0 (fun _ h => h) zF.id (c_X4_refused hc52) hP hD hS my_X4_refused kl_X4_132 ⟨rfl, rfl⟩ ⟨Nat.le_of_ble_eq_true rfl, Nat.le_of_ble_eq_true rfl⟩ (q0 := 0) (ci := 4) rfl wdM_0 rfl hl.1 rfl (Nat.le_of_ble_eq_true rfl) dX4_wall_28 ⟨Nat.zero_le _, Nat.zero_le _⟩ (fun H locs hP hD hS => ?_)
      obtain ⟨rfl, rfl⟩ := zq_j2 hf
      exact hret _ _ _ _ rfl dX4_wall_31 hP hD hS
  · have hf := it_f c3 hf
    refine lv_aload_n hx hb dX4_wall_7 rfl (lv_at hl 0 rfl) ?_
    refine lv_iconst (v := (-1)) hx hb dX4_wall_8 (by decide) ?_
    obtain ⟨r56, g57, hc55, hf⟩ := zq_b2_s hf
    refine zVI (ws' := (wdM ad cy g57 u)) (rest := []) C0 (fun _ h => h) zF.id (c_X4_refused hc55) hP hD hS my_X4_refused kl_X4_132 ⟨rfl, rfl⟩ ⟨Nat.le_of_ble_eq_true rfl, Nat.le_of_ble_eq_true rfl⟩ (q0 := 0) (ci := 4) rfl wdM_0 rfl hl.1 rfl (Nat.le_of_ble_eq_true rfl) dX4_wall_9 ⟨Nat.zero_le _, Nat.zero_le _⟩ (fun H locs hP hD hS => ?_)
    obtain ⟨rfl, rfl⟩ := zq_j2 hf
    exact hret _ _ _ _ rfl dX4_wall_12 hP hD hS
