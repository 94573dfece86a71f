def f_X2_litUnits_L11 (n : zS) (x2 : Int32) : Nat → Int32 → Int32 → Option (Int32)
  | 0, _, _ => none
  | q9 + 1, x3, x4 =>
  if 15 ≤ x4 then (
  some x3) else (
  zq_rd (n 6) 15 x4 (fun v4 =>
  zq_b1 (f_X3_hasBit x2 v4) (fun r7 =>
  if r7 = 0 then (
  f_X2_litUnits_L11 n x2 q9 x3 (x4 + 1)) else (
  f_X2_litUnits_L11 n x2 q9 (x3 ||| (1 <<< (x4 &&& 31))) (x4 + 1)))))
def f_X2_litUnits (n : zS) (x1 : Int32) : Option (Int32) :=
  zq_b1 (f_X2_lightOf n x1) (fun r2 =>
  zq_b1 (f_X2_litUnits_L11 n r2 100 0 0) (fun y10 =>
  some y10))
set_option maxHeartbeats 4000000 in
set_option maxRecDepth 100000 in
theorem w_X2_litUnits_L11 {l : Launch} {p : Program} {e : Env} {s9 : State} {m9 : MethodId} {ag : Array Value} {below : List Frame} {meth : Method} {c : Code} {A : Nat → Prop} {Q : State → Prop} {D : va_G} {ad : Nat → Nat} {cy : Nat → ClassId} {n : zS} {x2 : Int32} (C0 : zCx p s9 m9 ag c cX2_litUnits 5 RX2 D cy A)  {o3 : Int32} (e0 : ∀ (H : Heap) (locs : List Loc) (ls : Array Slot), va_P D vwCl (wdW ad cy n) H → va_D A (wdW ad cy n) → va_S A s9.heap H locs → lv_has ls 5 [(3, .int o3)] → W p l e { frames := 2, cells := 0, slots := 0, locals := 44 } s9 m9 ag below meth c H locs 0 0 Q (F0 m9 45 ls [])) : ∀ (q9 : Nat) (x3 : Int32) (x4 : Int32), f_X2_litUnits_L11 n x2 q9 x3 x4 = some o3 → ∀ (H : Heap) (locs : List Loc) (ls : Array Slot), va_P D vwCl (wdW ad cy n) H → va_D A (wdW ad cy n) → va_S A s9.heap H locs → lv_has ls 5 [(0, .ref (ad 0)), (2, .int x2), (3, .int x3), (4, .int x4)] → W p l e { frames := 2, cells := 0, slots := 0, locals := 44 } s9 m9 ag below meth c H locs 0 0 Q (F0 m9 11 ls []) := by
  obtain ⟨hx, hb, hml, hown, hts⟩ := id C0.1
  intro q9
  induction q9 with
  | zero =>
    intro x3 x4 hf
    rw [f_X2_litUnits_L11] at hf
    cases hf
  | succ q9 ih =>
    intro x3 x4 hf H locs ls hP hD hS hl
    rw [f_X2_litUnits_L11] at hf
    refine lv_iload hx hb dX2_litUnits_11 (lv_at hl 3 rfl) ?_
    refine lv_bipush (v := 15) hx hb dX2_litUnits_13 (by decide) ?_
    refine lv_icmp_ge (tgt := 45) hx hb dX2_litUnits_15 (by decide) (fun c3 => ?_) (fun c3 => ?_)
    · have hf := it_t c3 hf
      obtain rfl := Option.some.inj hf
      exact e0 _ _ _ hP hD hS (lv_sub hl [2] rfl)
    · have hf := it_f c3 hf
      refine lv_iload_n hx hb dX2_litUnits_18 rfl (lv_at hl 1 rfl) ?_
      refine lv_aload_n hx hb dX2_litUnits_19 rfl (lv_at hl 0 rfl) ?_
      refine gf_X2_31 C0 hP 0 wdW_0 rfl dX2_litUnits_20 ?_
      refine lv_iload hx hb dX2_litUnits_23 (lv_at hl 3 rfl) ?_
      obtain ⟨v4, ev4, h5, hf⟩ := zq_rd_s hf
      refine zia C0 hP 7 wdW_7 ev4 h5 dX2_litUnits_25 ?_
      obtain ⟨r7, hc6, hf⟩ := zq_b1_s hf
      refine zNI (ws' := (wdW ad cy n)) (rest := []) C0 (fun _ h => h) zF.nil (c_X3_hasBit hc6) hP hD hS my_X3_hasBit C0.2.2.2.2.2.2.2.2.2.1 ⟨rfl, rfl⟩ ⟨Nat.le_of_ble_eq_true rfl, Nat.le_of_ble_eq_true rfl⟩ rfl hl.1 rfl (Nat.le_of_ble_eq_true rfl) dX2_litUnits_26 ⟨Nat.zero_le _, Nat.zero_le _⟩ (fun H locs hP hD hS => ?_)
      refine lv_if_eq (tgt := 39) hx hb dX2_litUnits_29 (by decide) (fun c8 => ?_) (fun c8 => ?_)
      · have hf := it_t c8 hf
        refine lv_iinc (v := (x4 + 1)) (lv' := [(4, .int (x4 + 1)), (0, .ref (ad 0)), (2, .int x2), (3, .int x3)]) hx hb dX2_litUnits_39 hl (k := 3) rfl rfl (by decide) rfl (fun ls hl => ?_)
        refine lv_goto (tgt := 11) hx hb dX2_litUnits_42 (by decide) ?_
        exact ih x3 (x4 + 1) hf _ _ _ hP hD hS (lv_sub hl [1, 2, 3, 0] rfl)
      · have hf := it_f c8 hf
        refine lv_iload_n hx hb dX2_litUnits_32 rfl (lv_at hl 2 rfl) ?_
        refine lv_iconst (v := 1) hx hb dX2_litUnits_33 (by decide) ?_
        refine lv_iload hx hb dX2_litUnits_34 (lv_at hl 3 rfl) ?_
        refine lv_ishl hx hb dX2_litUnits_36 ?_
        refine lv_ior hx hb dX2_litUnits_37 ?_
        refine lv_istore_n (lv' := [(3, .int (x3 ||| (1 <<< (x4 &&& 31)))), (0, .ref (ad 0)), (2, .int x2), (4, .int x4)]) hx hb dX2_litUnits_38 rfl hl (by decide) rfl (fun ls hl => ?_)
        refine lv_iinc (v := (x4 + 1)) (lv' := [(4, .int (x4 + 1)), (3, .int (x3 ||| (1 <<< (x4 &&& 31)))), (0, .ref (ad 0)), (2, .int x2)]) hx hb dX2_litUnits_39 hl (k := 3) rfl rfl (by decide) rfl (fun ls hl => ?_)
        refine lv_goto (tgt := 11) hx hb dX2_litUnits_42 (by decide) ?_
        exact ih (x3 ||| (1 <<< (x4 &&& 31))) (x4 + 1) hf _ _ _ hP hD hS (lv_sub hl [2, 3, 1, 0] rfl)
set_option maxHeartbeats 4000000 in
set_option maxRecDepth 100000 in
theorem c_X2_litUnits {l : Launch} {D : va_G} {ad : Nat → Nat} {cy : Nat → ClassId} {n : zS} {x1 : Int32} {r0 : Int32} (hf : f_X2_litUnits n x1 = some r0) : zMI l yX2_litUnits (zW yX2_litUnits cX2_litUnits 5 (some .int)) { frames := 2, cells := 0, slots := 0, locals := 44 } D cy [.ref (ad 0), .int x1] (wdW ad cy n) r0 (wdW ad cy n) := by
  unfold f_X2_litUnits at hf
  refine zEI (ty := .int) (by decide) (Nat.le_of_ble_eq_true rfl) ?_
  intro p e s9 m9 below meth c A Q C0 hret ls hl hP hD
  have hl : lv_has ls 5 [(0, .ref (ad 0)), (1, .int x1)] := hl
  have hS : va_S A s9.heap s9.heap [] := va_S.rf
  obtain ⟨hx, hb, hml, hown, hts⟩ := id C0.1
  refine lv_aload_n hx hb dX2_litUnits_0 rfl (lv_at hl 0 rfl) ?_
  refine lv_iload_n hx hb dX2_litUnits_1 rfl (lv_at hl 1 rfl) ?_
  obtain ⟨r2, hc1, hf⟩ := zq_b1_s hf
  refine zVI (ws' := (wdW ad cy n)) (rest := []) C0 (fun _ h => h) zF.id (c_X2_lightOf hc1) hP hD hS my_X2_lightOf kl_X2_110 ⟨rfl, rfl⟩ ⟨Nat.le_of_ble_eq_true rfl, Nat.le_of_ble_eq_true rfl⟩ (q0 := 0) (ci := 2) rfl wdW_0 rfl hl.1 rfl (Nat.le_of_ble_eq_true rfl) dX2_litUnits_2 ⟨Nat.zero_le _, Nat.zero_le _⟩ (fun H locs hP hD hS => ?_)
  refine lv_istore_n (lv' := [(2, .int r2), (0, .ref (ad 0)), (1, .int x1)]) hx hb dX2_litUnits_5 rfl hl (by decide) rfl (fun ls hl => ?_)
  refine lv_iconst (v := 0) hx hb dX2_litUnits_6 (by decide) ?_
  refine lv_istore_n (lv' := [(3, .int 0), (2, .int r2), (0, .ref (ad 0)), (1, .int x1)]) hx hb dX2_litUnits_7 rfl hl (by decide) rfl (fun ls hl => ?_)
  refine lv_iconst (v := 0) hx hb dX2_litUnits_8 (by decide) ?_
  refine lv_istore (lv' := [(4, .int 0), (3, .int 0), (2, .int r2), (0, .ref (ad 0)), (1, .int x1)]) hx hb dX2_litUnits_9 hl (by decide) rfl (fun ls hl => ?_)
  obtain ⟨y10, hL9, hf⟩ := zq_b1_s hf
  refine w_X2_litUnits_L11 C0 (fun H locs ls hP hD hS hl => ?_) 100 0 0 hL9 _ _ _ hP hD hS (lv_sub hl [3, 2, 1, 0] rfl)
  refine lv_iload_n hx hb dX2_litUnits_45 rfl (lv_at hl 0 rfl) ?_
  obtain rfl := Option.some.inj hf
  exact hret _ _ _ _ rfl dX2_litUnits_46 hP hD hS

def f_X2_litLamps_L4 (n : zS) (x1 : Int32) : Nat → Int32 → Int32 → Option (Int32)
  | 0, _, _ => none
  | q9 + 1, x2, x3 =>
  if (n 9 0) ≤ x3 then (
  some x2) else (
  zq_b1 (f_X2_isLit n x3 x1) (fun r3 =>
  if r3 = 0 then (
  f_X2_litLamps_L4 n x1 q9 x2 (x3 + 1)) else (
  f_X2_litLamps_L4 n x1 q9 (x2 ||| (1 <<< (x3 &&& 31))) (x3 + 1))))
def f_X2_litLamps (n : zS) (x1 : Int32) : Option (Int32) :=
  zq_b1 (f_X2_litLamps_L4 n x1 100 0 0) (fun y6 =>
  some y6)
set_option maxHeartbeats 4000000 in
set_option maxRecDepth 100000 in
theorem w_X2_litLamps_L4 {l : Launch} {p : Program} {e : Env} {s9 : State} {m9 : MethodId} {ag : Array Value} {below : List Frame} {meth : Method} {c : Code} {A : Nat → Prop} {Q : State → Prop} {D : va_G} {ad : Nat → Nat} {cy : Nat → ClassId} {n : zS} {x1 : Int32} (C0 : zCx p s9 m9 ag c cX2_litLamps 4 RX2 D cy A)  {o2 : Int32} (e0 : ∀ (H : Heap) (locs : List Loc) (ls : Array Slot), va_P D vwCl (wdW ad cy n) H → va_D A (wdW ad cy n) → va_S A s9.heap H locs → lv_has ls 4 [(2, .int o2)] → W p l e { frames := 3, cells := 0, slots := 0, locals := 66 } s9 m9 ag below meth c H locs 0 0 Q (F0 m9 33 ls [])) : ∀ (q9 : Nat) (x2 : Int32) (x3 : Int32), f_X2_litLamps_L4 n x1 q9 x2 x3 = some o2 → ∀ (H : Heap) (locs : List Loc) (ls : Array Slot), va_P D vwCl (wdW ad cy n) H → va_D A (wdW ad cy n) → va_S A s9.heap H locs → lv_has ls 4 [(0, .ref (ad 0)), (1, .int x1), (2, .int x2), (3, .int x3)] → W p l e { frames := 3, cells := 0, slots := 0, locals := 66 } s9 m9 ag below meth c H locs 0 0 Q (F0 m9 4 ls []) := by
  obtain ⟨hx, hb, hml, hown, hts⟩ := id C0.1
  intro q9
  induction q9 with
  | zero =>
    intro x2 x3 hf
    rw [f_X2_litLamps_L4] at hf
    cases hf
  | succ q9 ih =>
    intro x2 x3 hf H locs ls hP hD hS hl
    rw [f_X2_litLamps_L4] at hf
    refine lv_iload_n hx hb dX2_litLamps_4 rfl (lv_at hl 3 rfl) ?_
    refine lv_aload_n hx hb dX2_litLamps_5 rfl (lv_at hl 0 rfl) ?_
    refine gf_X2_41 C0 hP 0 wdW_0 rfl dX2_litLamps_6 ?_
    refine lv_icmp_ge (tgt := 33) hx hb dX2_litLamps_9 (by decide) (fun c1 => ?_) (fun c1 => ?_)
    · have hf := it_t c1 hf
      obtain rfl := Option.some.inj hf
      exact e0 _ _ _ hP hD hS (lv_sub hl [2] rfl)
    · have hf := it_f c1 hf
      refine lv_aload_n hx hb dX2_litLamps_12 rfl (lv_at hl 0 rfl) ?_
      refine lv_iload_n hx hb dX2_litLamps_13 rfl (lv_at hl 3 rfl) ?_
      refine lv_iload_n hx hb dX2_litLamps_14 rfl (lv_at hl 1 rfl) ?_
      obtain ⟨r3, hc2, hf⟩ := zq_b1_s hf
      refine zVI (ws' := (wdW ad cy n)) (rest := []) C0 (fun _ h => h) zF.id (c_X2_isLit hc2) hP hD hS my_X2_isLit kl_X2_116 ⟨rfl, rfl⟩ ⟨Nat.le_of_ble_eq_true rfl, Nat.le_of_ble_eq_true rfl⟩ (q0 := 0) (ci := 2) rfl wdW_0 rfl hl.1 rfl (Nat.le_of_ble_eq_true rfl) dX2_litLamps_15 ⟨Nat.zero_le _, Nat.zero_le _⟩ (fun H locs hP hD hS => ?_)
      refine lv_if_eq (tgt := 27) hx hb dX2_litLamps_18 (by decide) (fun c4 => ?_) (fun c4 => ?_)
      · have hf := it_t c4 hf
        refine lv_iinc (v := (x3 + 1)) (lv' := [(3, .int (x3 + 1)), (0, .ref (ad 0)), (1, .int x1), (2, .int x2)]) hx hb dX2_litLamps_27 hl (k := 3) rfl rfl (by decide) rfl (fun ls hl => ?_)
        refine lv_goto (tgt := 4) hx hb dX2_litLamps_30 (by decide) ?_
        exact ih x2 (x3 + 1) hf _ _ _ hP hD hS (lv_sub hl [1, 2, 3, 0] rfl)
      · have hf := it_f c4 hf
        refine lv_iload_n hx hb dX2_litLamps_21 rfl (lv_at hl 2 rfl) ?_
        refine lv_iconst (v := 1) hx hb dX2_litLamps_22 (by decide) ?_
        refine lv_iload_n hx hb dX2_litLamps_23 rfl (lv_at hl 3 rfl) ?_
        refine lv_ishl hx hb dX2_litLamps_24 ?_
        refine lv_ior hx hb dX2_litLamps_25 ?_
        refine lv_istore_n (lv' := [(2, .int (x2 ||| (1 <<< (x3 &&& 31)))), (0, .ref (ad 0)), (1, .int x1), (3, .int x3)]) hx hb dX2_litLamps_26 rfl hl (by decide) rfl (fun ls hl => ?_)
        refine lv_iinc (v := (x3 + 1)) (lv' := [(3, .int (x3 + 1)), (2, .int (x2 ||| (1 <<< (x3 &&& 31)))), (0, .ref (ad 0)), (1, .int x1)]) hx hb dX2_litLamps_27 hl (k := 3) rfl rfl (by decide) rfl (fun ls hl => ?_)
        refine lv_goto (tgt := 4) hx hb dX2_litLamps_30 (by decide) ?_
        exact ih (x2 ||| (1 <<< (x3 &&& 31))) (x3 + 1) hf _ _ _ hP hD hS (lv_sub hl [2, 3, 1, 0] rfl)
set_option maxHeartbeats 4000000 in
set_option maxRecDepth 100000 in
theorem c_X2_litLamps {l : Launch} {D : va_G} {ad : Nat → Nat} {cy : Nat → ClassId} {n : zS} {x1 : Int32} {r0 : Int32} (hf : f_X2_litLamps n x1 = some r0) : zMI l yX2_litLamps (zW yX2_litLamps cX2_litLamps 4 (some .int)) { frames := 3, cells := 0, slots := 0, locals := 66 } D cy [.ref (ad 0), .int x1] (wdW ad cy n) r0 (wdW ad cy n) := by
  unfold f_X2_litLamps at hf
  refine zEI (ty := .int) (by decide) (Nat.le_of_ble_eq_true rfl) ?_
  intro p e s9 m9 below meth c A Q C0 hret ls hl hP hD
  have hl : lv_has ls 4 [(0, .ref (ad 0)), (1, .int x1)] := hl
  have hS : va_S A s9.heap s9.heap [] := va_S.rf
  obtain ⟨hx, hb, hml, hown, hts⟩ := id C0.1
  refine lv_iconst (v := 0) hx hb dX2_litLamps_0 (by decide) ?_
  refine lv_istore_n (lv' := [(2, .int 0), (0, .ref (ad 0)), (1, .int x1)]) hx hb dX2_litLamps_1 rfl hl (by decide) rfl (fun ls hl => ?_)
  refine lv_iconst (v := 0) hx hb dX2_litLamps_2 (by decide) ?_
  refine lv_istore_n (lv' := [(3, .int 0), (2, .int 0), (0, .ref (ad 0)), (1, .int x1)]) hx hb dX2_litLamps_3 rfl hl (by decide) rfl (fun ls hl => ?_)
  obtain ⟨y6, hL5, hf⟩ := zq_b1_s hf
  refine w_X2_litLamps_L4 C0 (fun H locs ls hP hD hS hl => ?_) 100 0 0 hL5 _ _ _ hP hD hS (lv_sub hl [2, 3, 1, 0] rfl)
  refine lv_iload_n hx hb dX2_litLamps_33 rfl (lv_at hl 0 rfl) ?_
  obtain rfl := Option.some.inj hf
  exact hret _ _ _ _ rfl dX2_litLamps_34 hP hD hS

def f_J6_bitCount_0f7a4  (x0 : Int32) : Option (Int32) :=
  some ((((((((x0 - ((Int32.toUInt32 x0 >>> (Int32.toUInt32 1 &&& Int32.toUInt32 31)).toInt32 &&& 1431655765)) &&& 858993459) + ((Int32.toUInt32 (x0 - ((Int32.toUInt32 x0 >>> (Int32.toUInt32 1 &&& Int32.toUInt32 31)).toInt32 &&& 1431655765)) >>> (Int32.toUInt32 2 &&& Int32.toUInt32 31)).toInt32 &&& 858993459)) + (Int32.toUInt32 (((x0 - ((Int32.toUInt32 x0 >>> (Int32.toUInt32 1 &&& Int32.toUInt32 31)).toInt32 &&& 1431655765)) &&& 858993459) + ((Int32.toUInt32 (x0 - ((Int32.toUInt32 x0 >>> (Int32.toUInt32 1 &&& Int32.toUInt32 31)).toInt32 &&& 1431655765)) >>> (Int32.toUInt32 2 &&& Int32.toUInt32 31)).toInt32 &&& 858993459)) >>> (Int32.toUInt32 4 &&& Int32.toUInt32 31)).toInt32) &&& 252645135) + (Int32.toUInt32 (((((x0 - ((Int32.toUInt32 x0 >>> (Int32.toUInt32 1 &&& Int32.toUInt32 31)).toInt32 &&& 1431655765)) &&& 858993459) + ((Int32.toUInt32 (x0 - ((Int32.toUInt32 x0 >>> (Int32.toUInt32 1 &&& Int32.toUInt32 31)).toInt32 &&& 1431655765)) >>> (Int32.toUInt32 2 &&& Int32.toUInt32 31)).toInt32 &&& 858993459)) + (Int32.toUInt32 (((x0 - ((Int32.toUInt32 x0 >>> (Int32.toUInt32 1 &&& Int32.toUInt32 31)).toInt32 &&& 1431655765)) &&& 858993459) + ((Int32.toUInt32 (x0 - ((Int32.toUInt32 x0 >>> (Int32.toUInt32 1 &&& Int32.toUInt32 31)).toInt32 &&& 1431655765)) >>> (Int32.toUInt32 2 &&& Int32.toUInt32 31)).toInt32 &&& 858993459)) >>> (Int32.toUInt32 4 &&& Int32.toUInt32 31)).toInt32) &&& 252645135) >>> (Int32.toUInt32 8 &&& Int32.toUInt32 31)).toInt32) + (Int32.toUInt32 ((((((x0 - ((Int32.toUInt32 x0 >>> (Int32.toUInt32 1 &&& Int32.toUInt32 31)).toInt32 &&& 1431655765)) &&& 858993459) + ((Int32.toUInt32 (x0 - ((Int32.toUInt32 x0 >>> (Int32.toUInt32 1 &&& Int32.toUInt32 31)).toInt32 &&& 1431655765)) >>> (Int32.toUInt32 2 &&& Int32.toUInt32 31)).toInt32 &&& 858993459)) + (Int32.toUInt32 (((x0 - ((Int32.toUInt32 x0 >>> (Int32.toUInt32 1 &&& Int32.toUInt32 31)).toInt32 &&& 1431655765)) &&& 858993459) + ((Int32.toUInt32 (x0 - ((Int32.toUInt32 x0 >>> (Int32.toUInt32 1 &&& Int32.toUInt32 31)).toInt32 &&& 1431655765)) >>> (Int32.toUInt32 2 &&& Int32.toUInt32 31)).toInt32 &&& 858993459)) >>> (Int32.toUInt32 4 &&& Int32.toUInt32 31)).toInt32) &&& 252645135) + (Int32.toUInt32 (((((x0 - ((Int32.toUInt32 x0 >>> (Int32.toUInt32 1 &&& Int32.toUInt32 31)).toInt32 &&& 1431655765)) &&& 858993459) + ((Int32.toUInt32 (x0 - ((Int32.toUInt32 x0 >>> (Int32.toUInt32 1 &&& Int32.toUInt32 31)).toInt32 &&& 1431655765)) >>> (Int32.toUInt32 2 &&& Int32.toUInt32 31)).toInt32 &&& 858993459)) + (Int32.toUInt32 (((x0 - ((Int32.toUInt32 x0 >>> (Int32.toUInt32 1 &&& Int32.toUInt32 31)).toInt32 &&& 1431655765)) &&& 858993459) + ((Int32.toUInt32 (x0 - ((Int32.toUInt32 x0 >>> (Int32.toUInt32 1 &&& Int32.toUInt32 31)).toInt32 &&& 1431655765)) >>> (Int32.toUInt32 2 &&& Int32.toUInt32 31)).toInt32 &&& 858993459)) >>> (Int32.toUInt32 4 &&& Int32.toUInt32 31)).toInt32) &&& 252645135) >>> (Int32.toUInt32 8 &&& Int32.toUInt32 31)).toInt32) >>> (Int32.toUInt32 16 &&& Int32.toUInt32 31)).toInt32) &&& 63)
set_option maxHeartbeats 4000000 in
set_option maxRecDepth 100000 in
theorem c_J6_bitCount_0f7a4 {l : Launch} {D : va_G} {cy : Nat → ClassId}   {x0 : Int32} {r0 : Int32} (hf : f_J6_bitCount_0f7a4 x0 = some r0) : zMI l yJ6_bitCount_0f7a4 (zW yJ6_bitCount_0f7a4 cJ6_bitCount_0f7a4 1 (some .int)) { frames := 0, cells := 0, slots := 0, locals := 0 } D cy [.int x0] [] r0 [] := by
  unfold f_J6_bitCount_0f7a4 at hf
  refine zEI (ty := .int) (by decide) (Nat.le_of_ble_eq_true rfl) ?_
  intro p e s9 m9 below meth c A Q C0 hret ls hl hP hD
  have hl : lv_has ls 1 [(0, .int x0)] := hl
  have hS : va_S A s9.heap s9.heap [] := va_S.rf
  obtain ⟨hx, hb, hml, hown, hts⟩ := id C0.1
  refine lv_iload_n hx hb dJ6_bitCount_0f7a4_0 rfl (lv_at hl 0 rfl) ?_
  refine lv_iload_n hx hb dJ6_bitCount_0f7a4_1 rfl (lv_at hl 0 rfl) ?_
  refine lv_iconst (v := 1) hx hb dJ6_bitCount_0f7a4_2 (by decide) ?_
  refine lv_iushr hx hb dJ6_bitCount_0f7a4_3 rfl ?_
  refine lv_ldcw hx hb hown (hts _ kc_J6_265) dJ6_bitCount_0f7a4_4 ?_
  refine lv_iand hx hb dJ6_bitCount_0f7a4_7 ?_
  refine lv_isub hx hb dJ6_bitCount_0f7a4_8 ?_
  refine lv_istore_n (lv' := [(0, .int (x0 - ((Int32.toUInt32 x0 >>> (Int32.toUInt32 1 &&& Int32.toUInt32 31)).toInt32 &&& 1431655765)))]) hx hb dJ6_bitCount_0f7a4_9 rfl hl (by decide) rfl (fun ls hl => ?_)
  refine lv_iload_n hx hb dJ6_bitCount_0f7a4_10 rfl (lv_at hl 0 rfl) ?_
  refine lv_ldcw hx hb hown (hts _ kc_J6_266) dJ6_bitCount_0f7a4_11 ?_
  refine lv_iand hx hb dJ6_bitCount_0f7a4_14 ?_
  refine lv_iload_n hx hb dJ6_bitCount_0f7a4_15 rfl (lv_at hl 0 rfl) ?_
  refine lv_iconst (v := 2) hx hb dJ6_bitCount_0f7a4_16 (by decide) ?_
  refine lv_iushr hx hb dJ6_bitCount_0f7a4_17 rfl ?_
  refine lv_ldcw hx hb hown (hts _ kc_J6_266) dJ6_bitCount_0f7a4_18 ?_
  refine lv_iand hx hb dJ6_bitCount_0f7a4_21 ?_
  refine lv_iadd hx hb dJ6_bitCount_0f7a4_22 ?_
  refine lv_istore_n (lv' := [(0, .int (((x0 - ((Int32.toUInt32 x0 >>> (Int32.toUInt32 1 &&& Int32.toUInt32 31)).toInt32 &&& 1431655765)) &&& 858993459) + ((Int32.toUInt32 (x0 - ((Int32.toUInt32 x0 >>> (Int32.toUInt32 1 &&& Int32.toUInt32 31)).toInt32 &&& 1431655765)) >>> (Int32.toUInt32 2 &&& Int32.toUInt32 31)).toInt32 &&& 858993459)))]) hx hb dJ6_bitCount_0f7a4_23 rfl hl (by decide) rfl (fun ls hl => ?_)
  refine lv_iload_n hx hb dJ6_bitCount_0f7a4_24 rfl (lv_at hl 0 rfl) ?_
  refine lv_iload_n hx hb dJ6_bitCount_0f7a4_25 rfl (lv_at hl 0 rfl) ?_
  refine lv_iconst (v := 4) hx hb dJ6_bitCount_0f7a4_26 (by decide) ?_
  refine lv_iushr hx hb dJ6_bitCount_0f7a4_27 rfl ?_
  refine lv_iadd hx hb dJ6_bitCount_0f7a4_28 ?_
  refine lv_ldcw hx hb hown (hts _ kc_J6_267) dJ6_bitCount_0f7a4_29 ?_
  refine lv_iand hx hb dJ6_bitCount_0f7a4_32 ?_
  refine lv_istore_n (lv' := [(0, .int (((((x0 - ((Int32.toUInt32 x0 >>> (Int32.toUInt32 1 &&& Int32.toUInt32 31)).toInt32 &&& 1431655765)) &&& 858993459) + ((Int32.toUInt32 (x0 - ((Int32.toUInt32 x0 >>> (Int32.toUInt32 1 &&& Int32.toUInt32 31)).toInt32 &&& 1431655765)) >>> (Int32.toUInt32 2 &&& Int32.toUInt32 31)).toInt32 &&& 858993459)) + (Int32.toUInt32 (((x0 - ((Int32.toUInt32 x0 >>> (Int32.toUInt32 1 &&& Int32.toUInt32 31)).toInt32 &&& 1431655765)) &&& 858993459) + ((Int32.toUInt32 (x0 - ((Int32.toUInt32 x0 >>> (Int32.toUInt32 1 &&& Int32.toUInt32 31)).toInt32 &&& 1431655765)) >>> (Int32.toUInt32 2 &&& Int32.toUInt32 31)).toInt32 &&& 858993459)) >>> (Int32.toUInt32 4 &&& Int32.toUInt32 31)).toInt32) &&& 252645135))]) hx hb dJ6_bitCount_0f7a4_33 rfl hl (by decide) rfl (fun ls hl => ?_)
  refine lv_iload_n hx hb dJ6_bitCount_0f7a4_34 rfl (lv_at hl 0 rfl) ?_
  refine lv_iload_n hx hb dJ6_bitCount_0f7a4_35 rfl (lv_at hl 0 rfl) ?_
  refine lv_bipush (v := 8) hx hb dJ6_bitCount_0f7a4_36 (by decide) ?_
  refine lv_iushr hx hb dJ6_bitCount_0f7a4_38 rfl ?_
  refine lv_iadd hx hb dJ6_bitCount_0f7a4_39 ?_
  refine lv_istore_n (lv' := [(0, .int ((((((x0 - ((Int32.toUInt32 x0 >>> (Int32.toUInt32 1 &&& Int32.toUInt32 31)).toInt32 &&& 1431655765)) &&& 858993459) + ((Int32.toUInt32 (x0 - ((Int32.toUInt32 x0 >>> (Int32.toUInt32 1 &&& Int32.toUInt32 31)).toInt32 &&& 1431655765)) >>> (Int32.toUInt32 2 &&& Int32.toUInt32 31)).toInt32 &&& 858993459)) + (Int32.toUInt32 (((x0 - ((Int32.toUInt32 x0 >>> (Int32.toUInt32 1 &&& Int32.toUInt32 31)).toInt32 &&& 1431655765)) &&& 858993459) + ((Int32.toUInt32 (x0 - ((Int32.toUInt32 x0 >>> (Int32.toUInt32 1 &&& Int32.toUInt32 31)).toInt32 &&& 1431655765)) >>> (Int32.toUInt32 2 &&& Int32.toUInt32 31)).toInt32 &&& 858993459)) >>> (Int32.toUInt32 4 &&& Int32.toUInt32 31)).toInt32) &&& 252645135) + (Int32.toUInt32 (((((x0 - ((Int32.toUInt32 x0 >>> (Int32.toUInt32 1 &&& Int32.toUInt32 31)).toInt32 &&& 1431655765)) &&& 858993459) + ((Int32.toUInt32 (x0 - ((Int32.toUInt32 x0 >>> (Int32.toUInt32 1 &&& Int32.toUInt32 31)).toInt32 &&& 1431655765)) >>> (Int32.toUInt32 2 &&& Int32.toUInt32 31)).toInt32 &&& 858993459)) + (Int32.toUInt32 (((x0 - ((Int32.toUInt32 x0 >>> (Int32.toUInt32 1 &&& Int32.toUInt32 31)).toInt32 &&& 1431655765)) &&& 858993459) + ((Int32.toUInt32 (x0 - ((Int32.toUInt32 x0 >>> (Int32.toUInt32 1 &&& Int32.toUInt32 31)).toInt32 &&& 1431655765)) >>> (Int32.toUInt32 2 &&& Int32.toUInt32 31)).toInt32 &&& 858993459)) >>> (Int32.toUInt32 4 &&& Int32.toUInt32 31)).toInt32) &&& 252645135) >>> (Int32.toUInt32 8 &&& Int32.toUInt32 31)).toInt32))]) hx hb dJ6_bitCount_0f7a4_40 rfl hl (by decide) rfl (fun ls hl => ?_)
  refine lv_iload_n hx hb dJ6_bitCount_0f7a4_41 rfl (lv_at hl 0 rfl) ?_
  refine lv_iload_n hx hb dJ6_bitCount_0f7a4_42 rfl (lv_at hl 0 rfl) ?_
  refine lv_bipush (v := 16) hx hb dJ6_bitCount_0f7a4_43 (by decide) ?_
  refine lv_iushr hx hb dJ6_bitCount_0f7a4_45 rfl ?_
  refine lv_iadd hx hb dJ6_bitCount_0f7a4_46 ?_
  refine lv_istore_n (lv' := [(0, .int (((((((x0 - ((Int32.toUInt32 x0 >>> (Int32.toUInt32 1 &&& Int32.toUInt32 31)).toInt32 &&& 1431655765)) &&& 858993459) + ((Int32.toUInt32 (x0 - ((Int32.toUInt32 x0 >>> (Int32.toUInt32 1 &&& Int32.toUInt32 31)).toInt32 &&& 1431655765)) >>> (Int32.toUInt32 2 &&& Int32.toUInt32 31)).toInt32 &&& 858993459)) + (Int32.toUInt32 (((x0 - ((Int32.toUInt32 x0 >>> (Int32.toUInt32 1 &&& Int32.toUInt32 31)).toInt32 &&& 1431655765)) &&& 858993459) + ((Int32.toUInt32 (x0 - ((Int32.toUInt32 x0 >>> (Int32.toUInt32 1 &&& Int32.toUInt32 31)).toInt32 &&& 1431655765)) >>> (Int32.toUInt32 2 &&& Int32.toUInt32 31)).toInt32 &&& 858993459)) >>> (Int32.toUInt32 4 &&& Int32.toUInt32 31)).toInt32) &&& 252645135) + (Int32.toUInt32 (((((x0 - ((Int32.toUInt32 x0 >>> (Int32.toUInt32 1 &&& Int32.toUInt32 31)).toInt32 &&& 1431655765)) &&& 858993459) + ((Int32.toUInt32 (x0 - ((Int32.toUInt32 x0 >>> (Int32.toUInt32 1 &&& Int32.toUInt32 31)).toInt32 &&& 1431655765)) >>> (Int32.toUInt32 2 &&& Int32.toUInt32 31)).toInt32 &&& 858993459)) + (Int32.toUInt32 (((x0 - ((Int32.toUInt32 x0 >>> (Int32.toUInt32 1 &&& Int32.toUInt32 31)).toInt32 &&& 1431655765)) &&& 858993459) + ((Int32.toUInt32 (x0 - ((Int32.toUInt32 x0 >>> (Int32.toUInt32 1 &&& Int32.toUInt32 31)).toInt32 &&& 1431655765)) >>> (Int32.toUInt32 2 &&& Int32.toUInt32 31)).toInt32 &&& 858993459)) >>> (Int32.toUInt32 4 &&& Int32.toUInt32 31)).toInt32) &&& 252645135) >>> (Int32.toUInt32 8 &&& Int32.toUInt32 31)).toInt32) + (Int32.toUInt32 ((((((x0 - ((Int32.toUInt32 x0 >>> (Int32.toUInt32 1 &&& Int32.toUInt32 31)).toInt32 &&& 1431655765)) &&& 858993459) + ((Int32.toUInt32 (x0 - ((Int32.toUInt32 x0 >>> (Int32.toUInt32 1 &&& Int32.toUInt32 31)).toInt32 &&& 1431655765)) >>> (Int32.toUInt32 2 &&& Int32.toUInt32 31)).toInt32 &&& 858993459)) + (Int32.toUInt32 (((x0 - ((Int32.toUInt32 x0 >>> (Int32.toUInt32 1 &&& Int32.toUInt32 31)).toInt32 &&& 1431655765)) &&& 858993459) + ((Int32.toUInt32 (x0 - ((Int32.toUInt32 x0 >>> (Int32.toUInt32 1 &&& Int32.toUInt32 31)).toInt32 &&& 1431655765)) >>> (Int32.toUInt32 2 &&& Int32.toUInt32 31)).toInt32 &&& 858993459)) >>> (Int32.toUInt32 4 &&& Int32.toUInt32 31)).toInt32) &&& 252645135) + (Int32.toUInt32 (((((x0 - ((Int32.toUInt32 x0 >>> (Int32.toUInt32 1 &&& Int32.toUInt32 31)).toInt32 &&& 1431655765)) &&& 858993459) + ((Int32.toUInt32 (x0 - ((Int32.toUInt32 x0 >>> (Int32.toUInt32 1 &&& Int32.toUInt32 31)).toInt32 &&& 1431655765)) >>> (Int32.toUInt32 2 &&& Int32.toUInt32 31)).toInt32 &&& 858993459)) + (Int32.toUInt32 (((x0 - ((Int32.toUInt32 x0 >>> (Int32.toUInt32 1 &&& Int32.toUInt32 31)).toInt32 &&& 1431655765)) &&& 858993459) + ((Int32.toUInt32 (x0 - ((Int32.toUInt32 x0 >>> (Int32.toUInt32 1 &&& Int32.toUInt32 31)).toInt32 &&& 1431655765)) >>> (Int32.toUInt32 2 &&& Int32.toUInt32 31)).toInt32 &&& 858993459)) >>> (Int32.toUInt32 4 &&& Int32.toUInt32 31)).toInt32) &&& 252645135) >>> (Int32.toUInt32 8 &&& Int32.toUInt32 31)).toInt32) >>> (Int32.toUInt32 16 &&& Int32.toUInt32 31)).toInt32))]) hx hb dJ6_bitCount_0f7a4_47 rfl hl (by decide) rfl (fun ls hl => ?_)
  refine lv_iload_n hx hb dJ6_bitCount_0f7a4_48 rfl (lv_at hl 0 rfl) ?_
  refine lv_bipush (v := 63) hx hb dJ6_bitCount_0f7a4_49 (by decide) ?_
  refine lv_iand hx hb dJ6_bitCount_0f7a4_51 ?_
  obtain rfl := Option.some.inj hf
  exact hret _ _ _ _ rfl dJ6_bitCount_0f7a4_52 hP hD hS

def f_X2_currentOf (n : zS) (x1 : Int32) : Option (Int32) :=
  zq_b1 (f_X2_litLamps n x1) (fun r2 =>
  zq_b1 (f_J6_bitCount_0f7a4 r2) (fun r4 =>
  some r4))
set_option maxHeartbeats 4000000 in
set_option maxRecDepth 100000 in
theorem c_X2_currentOf {l : Launch} {D : va_G} {ad : Nat → Nat} {cy : Nat → ClassId} {n : zS} {x1 : Int32} {r0 : Int32} (hf : f_X2_currentOf n x1 = some r0) : zMI l yX2_currentOf (zW yX2_currentOf cX2_currentOf 2 (some .int)) { frames := 4, cells := 0, slots := 0, locals := 89 } D cy [.ref (ad 0), .int x1] (wdW ad cy n) r0 (wdW ad cy n) := by
  unfold f_X2_currentOf at hf
  refine zEI (ty := .int) (by decide) (Nat.le_of_ble_eq_true rfl) ?_
  intro p e s9 m9 below meth c A Q C0 hret ls hl hP hD
  have hl : lv_has ls 2 [(0, .ref (ad 0)), (1, .int x1)] := hl
  have hS : va_S A s9.heap s9.heap [] := va_S.rf
  obtain ⟨hx, hb, hml, hown, hts⟩ := id C0.1
  refine lv_aload_n hx hb dX2_currentOf_0 rfl (lv_at hl 0 rfl) ?_
  refine lv_iload_n hx hb dX2_currentOf_1 rfl (lv_at hl 1 rfl) ?_
  obtain ⟨r2, hc1, hf⟩ := zq_b1_s hf
  refine zVI (ws' := (wdW ad cy n)) (rest := []) C0 (fun _ h => h) zF.id (c_X2_litLamps hc1) hP hD hS my_X2_litLamps kl_X2_119 ⟨rfl, rfl⟩ ⟨Nat.le_of_ble_eq_true rfl, Nat.le_of_ble_eq_true rfl⟩ (q0 := 0) (ci := 2) rfl wdW_0 rfl hl.1 rfl (Nat.le_of_ble_eq_true rfl) dX2_currentOf_2 ⟨Nat.zero_le _, Nat.zero_le _⟩ (fun H locs hP hD hS => ?_)
  obtain ⟨r4, hc3, hf⟩ := zq_b1_s hf
  refine zSI (ws' := (wdW ad cy n)) (rest := []) C0 (fun _ h => h) zF.nil (c_J6_bitCount_0f7a4 hc3) hP hD hS my_J6_bitCount_0f7a4 kl_X2_122 ⟨rfl, rfl⟩ ⟨Nat.le_of_ble_eq_true rfl, Nat.le_of_ble_eq_true rfl⟩ rfl hl.1 rfl (Nat.le_of_ble_eq_true rfl) dX2_currentOf_5 ⟨Nat.zero_le _, Nat.zero_le _⟩ (fun H locs hP hD hS => ?_)
  obtain rfl := Option.some.inj hf
  exact hret _ _ _ _ rfl dX2_currentOf_8 hP hD hS

def f_X2_greatestCurrentDimmed_L16 (n : zS) (x1 : Int32) (x3 : Int32) : Nat → Int32 → Int32 → Option (Int32)
  | 0, _, _ => none
  | q9 + 1, x4, x5 =>
  if (n 9 0) ≤ x5 then (
  some x4) else (
  zq_b1 (f_X2_lightOf n x5) (fun r4 =>
  zq_rd (n 6) 15 x3 (fun v5 =>
  zq_b1 (f_X3_hasBit ((r4 * x1) / 15) v5) (fun r8 =>
  if r8 = 0 then (
  f_X2_greatestCurrentDimmed_L16 n x1 x3 q9 (x4 + 0) (x5 + 1)) else (
  f_X2_greatestCurrentDimmed_L16 n x1 x3 q9 (x4 + 1) (x5 + 1))))))
def f_X2_greatestCurrentDimmed_L4 (n : zS) (x1 : Int32) : Nat → Int32 → Int32 → Option (Int32)
  | 0, _, _ => none
  | q9 + 1, x2, x3 =>
  if 15 ≤ x3 then (
  some x2) else (
  zq_b1 (f_X2_greatestCurrentDimmed_L16 n x1 x3 100 0 0) (fun y11 =>
  f_X2_greatestCurrentDimmed_L4 n x1 q9 (if x2 < y11 then y11 else x2) (x3 + 1)))
def f_X2_greatestCurrentDimmed (n : zS) (x1 : Int32) : Option (Int32) :=
  zq_b1 (f_X2_greatestCurrentDimmed_L4 n x1 100 0 0) (fun y13 =>
  some y13)
set_option maxHeartbeats 4000000 in
set_option maxRecDepth 100000 in
theorem w_X2_greatestCurrentDimmed_L16 {l : Launch} {p : Program} {e : Env} {s9 : State} {m9 : MethodId} {ag : Array Value} {below : List Frame} {meth : Method} {c : Code} {A : Nat → Prop} {Q : State → Prop} {D : va_G} {ad : Nat → Nat} {cy : Nat → ClassId} {n : zS} {x1 : Int32} {x3 : Int32} {x2 : Int32} (C0 : zCx p s9 m9 ag c cX2_greatestCurrentDimmed 7 RX2 D cy A)  {o4 : Int32} (e0 : ∀ (H : Heap) (locs : List Loc) (ls : Array Slot), va_P D vwCl (wdW ad cy n) H → va_D A (wdW ad cy n) → va_S A s9.heap H locs → lv_has ls 7 [(0, .ref (ad 0)), (1, .int x1), (2, .int x2), (3, .int x3), (4, .int o4)] → W p l e { frames := 2, cells := 0, slots := 0, locals := 44 } s9 m9 ag below meth c H locs 0 0 Q (F0 m9 68 ls [])) : ∀ (q9 : Nat) (x4 : Int32) (x5 : Int32), f_X2_greatestCurrentDimmed_L16 n x1 x3 q9 x4 x5 = some o4 → ∀ (H : Heap) (locs : List Loc) (ls : Array Slot), va_P D vwCl (wdW ad cy n) H → va_D A (wdW ad cy n) → va_S A s9.heap H locs → lv_has ls 7 [(0, .ref (ad 0)), (1, .int x1), (2, .int x2), (3, .int x3), (4, .int x4), (5, .int x5)] → W p l e { frames := 2, cells := 0, slots := 0, locals := 44 } s9 m9 ag below meth c H locs 0 0 Q (F0 m9 16 ls []) := by
  obtain ⟨hx, hb, hml, hown, hts⟩ := id C0.1
  intro q9
  induction q9 with
  | zero =>
    intro x4 x5 hf
    rw [f_X2_greatestCurrentDimmed_L16] at hf
    cases hf
  | succ q9 ih =>
    intro x4 x5 hf H locs ls hP hD hS hl
    rw [f_X2_greatestCurrentDimmed_L16] at hf
    refine lv_iload hx hb dX2_greatestCurrentDimmed_16 (lv_at hl 5 rfl) ?_
    refine lv_aload_n hx hb dX2_greatestCurrentDimmed_18 rfl (lv_at hl 0 rfl) ?_
    refine gf_X2_41 C0 hP 0 wdW_0 rfl dX2_greatestCurrentDimmed_19 ?_
    refine lv_icmp_ge (tgt := 68) hx hb dX2_greatestCurrentDimmed_22 (by decide) (fun c2 => ?_) (fun c2 => ?_)
    · have hf := it_t c2 hf
      obtain rfl := Option.some.inj hf
      exact e0 _ _ _ hP hD hS (lv_sub hl [0, 1, 2, 3, 4] rfl)
    · have hf := it_f c2 hf
      refine lv_aload_n hx hb dX2_greatestCurrentDimmed_25 rfl (lv_at hl 0 rfl) ?_
      refine lv_iload hx hb dX2_greatestCurrentDimmed_26 (lv_at hl 5 rfl) ?_
      obtain ⟨r4, hc3, hf⟩ := zq_b1_s hf
      refine zVI (ws' := (wdW ad cy n)) (rest := []) C0 (fun _ h => h) zF.id (c_X2_lightOf hc3) hP hD hS my_X2_lightOf kl_X2_110 ⟨rfl, rfl⟩ ⟨Nat.le_of_ble_eq_true rfl, Nat.le_of_ble_eq_true rfl⟩ (q0 := 0) (ci := 2) rfl wdW_0 rfl hl.1 rfl (Nat.le_of_ble_eq_true rfl) dX2_greatestCurrentDimmed_28 ⟨Nat.zero_le _, Nat.zero_le _⟩ (fun H locs hP hD hS => ?_)
      refine lv_iload_n hx hb dX2_greatestCurrentDimmed_31 rfl (lv_at hl 1 rfl) ?_
      refine lv_imul hx hb dX2_greatestCurrentDimmed_32 ?_
      refine lv_bipush (v := 15) hx hb dX2_greatestCurrentDimmed_33 (by decide) ?_
      refine lv_idiv hx hb dX2_greatestCurrentDimmed_35 (by decide) ?_
      refine lv_istore (lv' := [(6, .int ((r4 * x1) / 15)), (0, .ref (ad 0)), (1, .int x1), (2, .int x2), (3, .int x3), (4, .int x4), (5, .int x5)]) hx hb dX2_greatestCurrentDimmed_36 hl (by decide) rfl (fun ls hl => ?_)
      refine lv_iload hx hb dX2_greatestCurrentDimmed_38 (lv_at hl 5 rfl) ?_
      refine lv_iload hx hb dX2_greatestCurrentDimmed_40 (lv_at hl 0 rfl) ?_
      refine lv_aload_n hx hb dX2_greatestCurrentDimmed_42 rfl (lv_at hl 1 rfl) ?_
      refine gf_X2_31 C0 hP 0 wdW_0 rfl dX2_greatestCurrentDimmed_43 ?_
      refine lv_iload_n hx hb dX2_greatestCurrentDimmed_46 rfl (lv_at hl 4 rfl) ?_
      obtain ⟨v5, ev5, h6, hf⟩ := zq_rd_s hf
      refine zia C0 hP 7 wdW_7 ev5 h6 dX2_greatestCurrentDimmed_47 ?_
      obtain ⟨r8, hc7, hf⟩ := zq_b1_s hf
      refine zNI (ws' := (wdW ad cy n)) (rest := [.int x4]) C0 (fun _ h => h) zF.nil (c_X3_hasBit hc7) hP hD hS my_X3_hasBit C0.2.2.2.2.2.2.2.2.2.1 ⟨rfl, rfl⟩ ⟨Nat.le_of_ble_eq_true rfl, Nat.le_of_ble_eq_true rfl⟩ rfl hl.1 rfl (Nat.le_of_ble_eq_true rfl) dX2_greatestCurrentDimmed_48 ⟨Nat.zero_le _, Nat.zero_le _⟩ (fun H locs hP hD hS => ?_)
      refine lv_if_eq (tgt := 58) hx hb dX2_greatestCurrentDimmed_51 (by decide) (fun c9 => ?_) (fun c9 => ?_)
      · have hf := it_t c9 hf
        refine lv_iconst (v := 0) hx hb dX2_greatestCurrentDimmed_58 (by decide) ?_
        refine lv_iadd hx hb dX2_greatestCurrentDimmed_59 ?_
        refine lv_istore (lv' := [(4, .int (x4 + 0)), (6, .int ((r4 * x1) / 15)), (0, .ref (ad 0)), (1, .int x1), (2, .int x2), (3, .int x3), (5, .int x5)]) hx hb dX2_greatestCurrentDimmed_60 hl (by decide) rfl (fun ls hl => ?_)
        refine lv_iinc (v := (x5 + 1)) (lv' := [(5, .int (x5 + 1)), (4, .int (x4 + 0)), (6, .int ((r4 * x1) / 15)), (0, .ref (ad 0)), (1, .int x1), (2, .int x2), (3, .int x3)]) hx hb dX2_greatestCurrentDimmed_62 hl (k := 6) rfl rfl (by decide) rfl (fun ls hl => ?_)
        refine lv_goto (tgt := 16) hx hb dX2_greatestCurrentDimmed_65 (by decide) ?_
        exact ih (x4 + 0) (x5 + 1) hf _ _ _ hP hD hS (lv_sub hl [3, 4, 5, 6, 1, 0] rfl)
      · have hf := it_f c9 hf
        refine lv_iconst (v := 1) hx hb dX2_greatestCurrentDimmed_54 (by decide) ?_
        refine lv_goto (tgt := 59) hx hb dX2_greatestCurrentDimmed_55 (by decide) ?_
        refine lv_iadd hx hb dX2_greatestCurrentDimmed_59 ?_
        refine lv_istore (lv' := [(4, .int (x4 + 1)), (6, .int ((r4 * x1) / 15)), (0, .ref (ad 0)), (1, .int x1), (2, .int x2), (3, .int x3), (5, .int x5)]) hx hb dX2_greatestCurrentDimmed_60 hl (by decide) rfl (fun ls hl => ?_)
        refine lv_iinc (v := (x5 + 1)) (lv' := [(5, .int (x5 + 1)), (4, .int (x4 + 1)), (6, .int ((r4 * x1) / 15)), (0, .ref (ad 0)), (1, .int x1), (2, .int x2), (3, .int x3)]) hx hb dX2_greatestCurrentDimmed_62 hl (k := 6) rfl rfl (by decide) rfl (fun ls hl => ?_)
        refine lv_goto (tgt := 16) hx hb dX2_greatestCurrentDimmed_65 (by decide) ?_
        exact ih (x4 + 1) (x5 + 1) hf _ _ _ hP hD hS (lv_sub hl [3, 4, 5, 6, 1, 0] rfl)
set_option maxHeartbeats 4000000 in
set_option maxRecDepth 100000 in
theorem w_X2_greatestCurrentDimmed_L4 {l : Launch} {p : Program} {e : Env} {s9 : State} {m9 : MethodId} {ag : Array Value} {below : List Frame} {meth : Method} {c : Code} {A : Nat → Prop} {Q : State → Prop} {D : va_G} {ad : Nat → Nat} {cy : Nat → ClassId} {n : zS} {x1 : Int32} (C0 : zCx p s9 m9 ag c cX2_greatestCurrentDimmed 7 RX2 D cy A)  {o2 : Int32} (e0 : ∀ (H : Heap) (locs : List Loc) (ls : Array Slot), va_P D vwCl (wdW ad cy n) H → va_D A (wdW ad cy n) → va_S A s9.heap H locs → lv_has ls 7 [(2, .int o2)] → W p l e { frames := 2, cells := 0, slots := 0, locals := 44 } s9 m9 ag below meth c H locs 0 0 Q (F0 m9 81 ls [])) : ∀ (q9 : Nat) (x2 : Int32) (x3 : Int32), f_X2_greatestCurrentDimmed_L4 n x1 q9 x2 x3 = some o2 → ∀ (H : Heap) (locs : List Loc) (ls : Array Slot), va_P D vwCl (wdW ad cy n) H → va_D A (wdW ad cy n) → va_S A s9.heap H locs → lv_has ls 7 [(0, .ref (ad 0)), (1, .int x1), (2, .int x2), (3, .int x3)] → W p l e { frames := 2, cells := 0, slots := 0, locals := 44 } s9 m9 ag below meth c H locs 0 0 Q (F0 m9 4 ls []) := by
  obtain ⟨hx, hb, hml, hown, hts⟩ := id C0.1
  intro q9
  induction q9 with
  | zero =>
    intro x2 x3 hf
    rw [f_X2_greatestCurrentDimmed_L4] at hf
    cases hf
  | succ q9 ih =>
    intro x2 x3 hf H locs ls hP hD hS hl
    rw [f_X2_greatestCurrentDimmed_L4] at hf
    refine lv_iload_n hx hb dX2_greatestCurrentDimmed_4 rfl (lv_at hl 3 rfl) ?_
    refine lv_bipush (v := 15) hx hb dX2_greatestCurrentDimmed_5 (by decide) ?_
    refine lv_icmp_ge (tgt := 81) hx hb dX2_greatestCurrentDimmed_7 (by decide) (fun c1 => ?_) (fun c1 => ?_)
    · have hf := it_t c1 hf
      obtain rfl := Option.some.inj hf
      exact e0 _ _ _ hP hD hS (lv_sub hl [2] rfl)
    · have hf := it_f c1 hf
      refine lv_iconst (v := 0) hx hb dX2_greatestCurrentDimmed_10 (by decide) ?_
      refine lv_istore (lv' := [(4, .int 0), (0, .ref (ad 0)), (1, .int x1), (2, .int x2), (3, .int x3)]) hx hb dX2_greatestCurrentDimmed_11 hl (by decide) rfl (fun ls hl => ?_)
      refine lv_iconst (v := 0) hx hb dX2_greatestCurrentDimmed_13 (by decide) ?_
      refine lv_istore (lv' := [(5, .int 0), (4, .int 0), (0, .ref (ad 0)), (1, .int x1), (2, .int x2), (3, .int x3)]) hx hb dX2_greatestCurrentDimmed_14 hl (by decide) rfl (fun ls hl => ?_)
      obtain ⟨y11, hL10, hf⟩ := zq_b1_s hf
      refine w_X2_greatestCurrentDimmed_L16 C0 (fun H locs ls hP hD hS hl => ?_) 100 0 0 hL10 _ _ _ hP hD hS (lv_sub hl [2, 3, 4, 5, 1, 0] rfl)
      refine lv_iload_n hx hb dX2_greatestCurrentDimmed_68 rfl (lv_at hl 2 rfl) ?_
      refine lv_iload hx hb dX2_greatestCurrentDimmed_69 (lv_at hl 4 rfl) ?_
      refine zmmax C0 hl.1 kl_X2_104 ks_max ki_J9 kd_max (Nat.le_of_ble_eq_true rfl) (Nat.le_of_ble_eq_true rfl) ⟨Nat.zero_le _, Nat.zero_le _⟩ dX2_greatestCurrentDimmed_71 ?_
      refine lv_istore_n (lv' := [(2, .int (if x2 < y11 then y11 else x2)), (0, .ref (ad 0)), (1, .int x1), (3, .int x3), (4, .int y11)]) hx hb dX2_greatestCurrentDimmed_74 rfl hl (by decide) rfl (fun ls hl => ?_)
      refine lv_iinc (v := (x3 + 1)) (lv' := [(3, .int (x3 + 1)), (2, .int (if x2 < y11 then y11 else x2)), (0, .ref (ad 0)), (1, .int x1), (4, .int y11)]) hx hb dX2_greatestCurrentDimmed_75 hl (k := 3) rfl rfl (by decide) rfl (fun ls hl => ?_)
      refine lv_goto (tgt := 4) hx hb dX2_greatestCurrentDimmed_78 (by decide) ?_
      exact ih (if x2 < y11 then y11 else x2) (x3 + 1) hf _ _ _ hP hD hS (lv_sub hl [2, 3, 1, 0] rfl)
set_option maxHeartbeats 4000000 in
set_option maxRecDepth 100000 in
theorem c_X2_greatestCurrentDimmed {l : Launch} {D : va_G} {ad : Nat → Nat} {cy : Nat → ClassId} {n : zS} {x1 : Int32} {r0 : Int32} (hf : f_X2_greatestCurrentDimmed n x1 = some r0) : zMI l yX2_greatestCurrentDimmed (zW yX2_greatestCurrentDimmed cX2_greatestCurrentDimmed 7 (some .int)) { frames := 2, cells := 0, slots := 0, locals := 44 } D cy [.ref (ad 0), .int x1] (wdW ad cy n) r0 (wdW ad cy n) := by
  unfold f_X2_greatestCurrentDimmed at hf
  refine zEI (ty := .int) (by decide) (Nat.le_of_ble_eq_true rfl) ?_
  intro p e s9 m9 below meth c A Q C0 hret ls hl hP hD
  have hl : lv_has ls 7 [(0, .ref (ad 0)), (1, .int x1)] := hl
  have hS : va_S A s9.heap s9.heap [] := va_S.rf
  obtain ⟨hx, hb, hml, hown, hts⟩ := id C0.1
  refine lv_iconst (v := 0) hx hb dX2_greatestCurrentDimmed_0 (by decide) ?_
  refine lv_istore_n (lv' := [(2, .int 0), (0, .ref (ad 0)), (1, .int x1)]) hx hb dX2_greatestCurrentDimmed_1 rfl hl (by decide) rfl (fun ls hl => ?_)
  refine lv_iconst (v := 0) hx hb dX2_greatestCurrentDimmed_2 (by decide) ?_
  refine lv_istore_n (lv' := [(3, .int 0), (2, .int 0), (0, .ref (ad 0)), (1, .int x1)]) hx hb dX2_greatestCurrentDimmed_3 rfl hl (by decide) rfl (fun ls hl => ?_)
  obtain ⟨y13, hL12, hf⟩ := zq_b1_s hf
  refine w_X2_greatestCurrentDimmed_L4 C0 (fun H locs ls hP hD hS hl => ?_) 100 0 0 hL12 _ _ _ hP hD hS (lv_sub hl [2, 3, 1, 0] rfl)
  refine lv_iload_n hx hb dX2_greatestCurrentDimmed_81 rfl (lv_at hl 0 rfl) ?_
  obtain rfl := Option.some.inj hf
  exact hret _ _ _ _ rfl dX2_greatestCurrentDimmed_82 hP hD hS

def f_X3_darkestStretch_L6 (x0 : Int32) : Nat → Int32 → Int32 → Int32 → Option (Int32)
  | 0, _, _, _ => none
  | q9 + 1, x1, x2, x3 =>
  if 30 ≤ x3 then (
  some x1) else (
  zq_b1 (f_X3_hasBit x0 (x3 - x3 / 15 * 15)) (fun r3 =>
  if r3 = 0 then (
  f_X3_darkestStretch_L6 x0 q9 (if x1 < (x2 + 1) then (x2 + 1) else x1) (x2 + 1) (x3 + 1)) else (
  f_X3_darkestStretch_L6 x0 q9 (if x1 < 0 then 0 else x1) 0 (x3 + 1))))
def f_X3_darkestStretch  (x0 : Int32) : Option (Int32) :=
  zq_b1 (f_X3_darkestStretch_L6 x0 100 0 0 0) (fun y6 =>
  some (if 15 < y6 then 15 else y6))
set_option maxHeartbeats 4000000 in
set_option maxRecDepth 100000 in
theorem w_X3_darkestStretch_L6 {l : Launch} {p : Program} {e : Env} {s9 : State} {m9 : MethodId} {ag : Array Value} {below : List Frame} {meth : Method} {c : Code} {A : Nat → Prop} {Q : State → Prop} {D : va_G} {cy : Nat → ClassId}  {x0 : Int32} (C0 : zCx p s9 m9 ag c cX3_darkestStretch 4 RX3 D cy A)  {o1 : Int32} (e0 : ∀ (H : Heap) (locs : List Loc) (ls : Array Slot), va_P D vwCl [] H → va_D A [] → va_S A s9.heap H locs → lv_has ls 4 [(1, .int o1)] → W p l e { frames := 1, cells := 0, slots := 0, locals := 21 } s9 m9 ag below meth c H locs 0 0 Q (F0 m9 43 ls [])) : ∀ (q9 : Nat) (x1 : Int32) (x2 : Int32) (x3 : Int32), f_X3_darkestStretch_L6 x0 q9 x1 x2 x3 = some o1 → ∀ (H : Heap) (locs : List Loc) (ls : Array Slot), va_P D vwCl [] H → va_D A [] → va_S A s9.heap H locs → lv_has ls 4 [(0, .int x0), (1, .int x1), (2, .int x2), (3, .int x3)] → W p l e { frames := 1, cells := 0, slots := 0, locals := 21 } s9 m9 ag below meth c H locs 0 0 Q (F0 m9 6 ls []) := by
  obtain ⟨hx, hb, hml, hown, hts⟩ := id C0.1
  intro q9
  induction q9 with
  | zero =>
    intro x1 x2 x3 hf
    rw [f_X3_darkestStretch_L6] at hf
    cases hf
  | succ q9 ih =>
    intro x1 x2 x3 hf H locs ls hP hD hS hl
    rw [f_X3_darkestStretch_L6] at hf
    refine lv_iload_n hx hb dX3_darkestStretch_6 rfl (lv_at hl 3 rfl) ?_
    refine lv_bipush (v := 30) hx hb dX3_darkestStretch_7 (by decide) ?_
    refine lv_icmp_ge (tgt := 43) hx hb dX3_darkestStretch_9 (by decide) (fun c1 => ?_) (fun c1 => ?_)
    · have hf := it_t c1 hf
      obtain rfl := Option.some.inj hf
      exact e0 _ _ _ hP hD hS (lv_sub hl [1] rfl)
    · have hf := it_f c1 hf
      refine lv_iload_n hx hb dX3_darkestStretch_12 rfl (lv_at hl 0 rfl) ?_
      refine lv_iload_n hx hb dX3_darkestStretch_13 rfl (lv_at hl 3 rfl) ?_
      refine lv_bipush (v := 15) hx hb dX3_darkestStretch_14 (by decide) ?_
      refine lv_irem hx hb dX3_darkestStretch_16 (by decide) ?_
      obtain ⟨r3, hc2, hf⟩ := zq_b1_s hf
      refine zSI (ws' := []) (rest := []) C0 (fun _ h => h) zF.nil (c_X3_hasBit hc2) hP hD hS my_X3_hasBit kl_X3_269 ⟨rfl, rfl⟩ ⟨Nat.le_of_ble_eq_true rfl, Nat.le_of_ble_eq_true rfl⟩ rfl hl.1 rfl (Nat.le_of_ble_eq_true rfl) dX3_darkestStretch_17 ⟨Nat.zero_le _, Nat.zero_le _⟩ (fun H locs hP hD hS => ?_)
      refine lv_if_eq (tgt := 27) hx hb dX3_darkestStretch_20 (by decide) (fun c4 => ?_) (fun c4 => ?_)
      · have hf := it_t c4 hf
        refine lv_iload_n hx hb dX3_darkestStretch_27 rfl (lv_at hl 2 rfl) ?_
        refine lv_iconst (v := 1) hx hb dX3_darkestStretch_28 (by decide) ?_
        refine lv_iadd hx hb dX3_darkestStretch_29 ?_
        refine lv_istore_n (lv' := [(2, .int (x2 + 1)), (0, .int x0), (1, .int x1), (3, .int x3)]) hx hb dX3_darkestStretch_30 rfl hl (by decide) rfl (fun ls hl => ?_)
        refine lv_iload_n hx hb dX3_darkestStretch_31 rfl (lv_at hl 2 rfl) ?_
        refine lv_iload_n hx hb dX3_darkestStretch_32 rfl (lv_at hl 0 rfl) ?_
        refine zmmax C0 hl.1 kl_X3_272 ks_max ki_J9 kd_max (Nat.le_of_ble_eq_true rfl) (Nat.le_of_ble_eq_true rfl) ⟨Nat.zero_le _, Nat.zero_le _⟩ dX3_darkestStretch_33 ?_
        refine lv_istore_n (lv' := [(1, .int (if x1 < (x2 + 1) then (x2 + 1) else x1)), (2, .int (x2 + 1)), (0, .int x0), (3, .int x3)]) hx hb dX3_darkestStretch_36 rfl hl (by decide) rfl (fun ls hl => ?_)
        refine lv_iinc (v := (x3 + 1)) (lv' := [(3, .int (x3 + 1)), (1, .int (if x1 < (x2 + 1) then (x2 + 1) else x1)), (2, .int (x2 + 1)), (0, .int x0)]) hx hb dX3_darkestStretch_37 hl (k := 3) rfl rfl (by decide) rfl (fun ls hl => ?_)
        refine lv_goto (tgt := 6) hx hb dX3_darkestStretch_40 (by decide) ?_
        exact ih (if x1 < (x2 + 1) then (x2 + 1) else x1) (x2 + 1) (x3 + 1) hf _ _ _ hP hD hS (lv_sub hl [3, 1, 2, 0] rfl)
      · have hf := it_f c4 hf
        refine lv_iconst (v := 0) hx hb dX3_darkestStretch_23 (by decide) ?_
        refine lv_goto (tgt := 30) hx hb dX3_darkestStretch_24 (by decide) ?_
        refine lv_istore_n (lv' := [(2, .int 0), (0, .int x0), (1, .int x1), (3, .int x3)]) hx hb dX3_darkestStretch_30 rfl hl (by decide) rfl (fun ls hl => ?_)
        refine lv_iload_n hx hb dX3_darkestStretch_31 rfl (lv_at hl 2 rfl) ?_
        refine lv_iload_n hx hb dX3_darkestStretch_32 rfl (lv_at hl 0 rfl) ?_
        refine zmmax C0 hl.1 kl_X3_272 ks_max ki_J9 kd_max (Nat.le_of_ble_eq_true rfl) (Nat.le_of_ble_eq_true rfl) ⟨Nat.zero_le _, Nat.zero_le _⟩ dX3_darkestStretch_33 ?_
        refine lv_istore_n (lv' := [(1, .int (if x1 < 0 then 0 else x1)), (2, .int 0), (0, .int x0), (3, .int x3)]) hx hb dX3_darkestStretch_36 rfl hl (by decide) rfl (fun ls hl => ?_)
        refine lv_iinc (v := (x3 + 1)) (lv' := [(3, .int (x3 + 1)), (1, .int (if x1 < 0 then 0 else x1)), (2, .int 0), (0, .int x0)]) hx hb dX3_darkestStretch_37 hl (k := 3) rfl rfl (by decide) rfl (fun ls hl => ?_)
        refine lv_goto (tgt := 6) hx hb dX3_darkestStretch_40 (by decide) ?_
        exact ih (if x1 < 0 then 0 else x1) 0 (x3 + 1) hf _ _ _ hP hD hS (lv_sub hl [3, 1, 2, 0] rfl)
set_option maxHeartbeats 4000000 in
set_option maxRecDepth 100000 in
theorem c_X3_darkestStretch {l : Launch} {D : va_G} {cy : Nat → ClassId}   {x0 : Int32} {r0 : Int32} (hf : f_X3_darkestStretch x0 = some r0) : zMI l yX3_darkestStretch (zW yX3_darkestStretch cX3_darkestStretch 4 (some .int)) { frames := 1, cells := 0, slots := 0, locals := 21 } D cy [.int x0] [] r0 [] := by
  unfold f_X3_darkestStretch at hf
  refine zEI (ty := .int) (by decide) (Nat.le_of_ble_eq_true rfl) ?_
  intro p e s9 m9 below meth c A Q C0 hret ls hl hP hD
  have hl : lv_has ls 4 [(0, .int x0)] := hl
  have hS : va_S A s9.heap s9.heap [] := va_S.rf
  obtain ⟨hx, hb, hml, hown, hts⟩ := id C0.1
  refine lv_iconst (v := 0) hx hb dX3_darkestStretch_0 (by decide) ?_
  refine lv_istore_n (lv' := [(1, .int 0), (0, .int x0)]) hx hb dX3_darkestStretch_1 rfl hl (by decide) rfl (fun ls hl => ?_)
  refine lv_iconst (v := 0) hx hb dX3_darkestStretch_2 (by decide) ?_
  refine lv_istore_n (lv' := [(2, .int 0), (1, .int 0), (0, .int x0)]) hx hb dX3_darkestStretch_3 rfl hl (by decide) rfl (fun ls hl => ?_)
  refine lv_iconst (v := 0) hx hb dX3_darkestStretch_4 (by decide) ?_
  refine lv_istore_n (lv' := [(3, .int 0), (2, .int 0), (1, .int 0), (0, .int x0)]) hx hb dX3_darkestStretch_5 rfl hl (by decide) rfl (fun ls hl => ?_)
  obtain ⟨y6, hL5, hf⟩ := zq_b1_s hf
  refine w_X3_darkestStretch_L6 C0 (fun H locs ls hP hD hS hl => ?_) 100 0 0 0 hL5 _ _ _ hP hD hS (lv_sub hl [3, 2, 1, 0] rfl)
  refine lv_iload_n hx hb dX3_darkestStretch_43 rfl (lv_at hl 0 rfl) ?_
  refine lv_bipush (v := 15) hx hb dX3_darkestStretch_44 (by decide) ?_
  refine zmmin C0 hl.1 kl_X3_277 ks_min ki_J9 kd_min (Nat.le_of_ble_eq_true rfl) (Nat.le_of_ble_eq_true rfl) ⟨Nat.zero_le _, Nat.zero_le _⟩ dX3_darkestStretch_46 ?_
  obtain rfl := Option.some.inj hf
  exact hret _ _ _ _ rfl dX3_darkestStretch_49 hP hD hS

def f_X2_darkTogether_L4 (n : zS) : Nat → Int32 → Int32 → Option (Int32)
  | 0, _, _ => none
  | q9 + 1, x1, x2 =>
  if (n 9 0) ≤ x2 then (
  some x1) else (
  zq_b1 (f_X2_litUnits n x2) (fun r3 =>
  zq_b1 (f_X3_darkestStretch r3) (fun r5 =>
  f_X2_darkTogether_L4 n q9 (x1 + r5) (x2 + 1))))
def f_X2_darkTogether (n : zS)  : Option (Int32) :=
  zq_b1 (f_X2_darkTogether_L4 n 100 0 0) (fun y7 =>
  some y7)
set_option maxHeartbeats 4000000 in
set_option maxRecDepth 100000 in
theorem w_X2_darkTogether_L4 {l : Launch} {p : Program} {e : Env} {s9 : State} {m9 : MethodId} {ag : Array Value} {below : List Frame} {meth : Method} {c : Code} {A : Nat → Prop} {Q : State → Prop} {D : va_G} {ad : Nat → Nat} {cy : Nat → ClassId} {n : zS} (C0 : zCx p s9 m9 ag c cX2_darkTogether 3 RX2 D cy A)  {o1 : Int32} (e0 : ∀ (H : Heap) (locs : List Loc) (ls : Array Slot), va_P D vwCl (wdW ad cy n) H → va_D A (wdW ad cy n) → va_S A s9.heap H locs → lv_has ls 3 [(1, .int o1)] → W p l e { frames := 3, cells := 0, slots := 0, locals := 68 } s9 m9 ag below meth c H locs 0 0 Q (F0 m9 29 ls [])) : ∀ (q9 : Nat) (x1 : Int32) (x2 : Int32), f_X2_darkTogether_L4 n q9 x1 x2 = some o1 → ∀ (H : Heap) (locs : List Loc) (ls : Array Slot), va_P D vwCl (wdW ad cy n) H → va_D A (wdW ad cy n) → va_S A s9.heap H locs → lv_has ls 3 [(0, .ref (ad 0)), (1, .int x1), (2, .int x2)] → W p l e { frames := 3, cells := 0, slots := 0, locals := 68 } s9 m9 ag below meth c H locs 0 0 Q (F0 m9 4 ls []) := by
  obtain ⟨hx, hb, hml, hown, hts⟩ := id C0.1
  intro q9
  induction q9 with
  | zero =>
    intro x1 x2 hf
    rw [f_X2_darkTogether_L4] at hf
    cases hf
  | succ q9 ih =>
    intro x1 x2 hf H locs ls hP hD hS hl
    rw [f_X2_darkTogether_L4] at hf
    refine lv_iload_n hx hb dX2_darkTogether_4 rfl (lv_at hl 2 rfl) ?_
    refine lv_aload_n hx hb dX2_darkTogether_5 rfl (lv_at hl 0 rfl) ?_
    refine gf_X2_41 C0 hP 0 wdW_0 rfl dX2_darkTogether_6 ?_
    refine lv_icmp_ge (tgt := 29) hx hb dX2_darkTogether_9 (by decide) (fun c1 => ?_) (fun c1 => ?_)
    · have hf := it_t c1 hf
      obtain rfl := Option.some.inj hf
      exact e0 _ _ _ hP hD hS (lv_sub hl [1] rfl)
    · have hf := it_f c1 hf
      refine lv_iload_n hx hb dX2_darkTogether_12 rfl (lv_at hl 1 rfl) ?_
      refine lv_aload_n hx hb dX2_darkTogether_13 rfl (lv_at hl 0 rfl) ?_
      refine lv_iload_n hx hb dX2_darkTogether_14 rfl (lv_at hl 2 rfl) ?_
      obtain ⟨r3, hc2, hf⟩ := zq_b1_s hf
      refine zVI (ws' := (wdW ad cy n)) (rest := [.int x1]) C0 (fun _ h => h) zF.id (c_X2_litUnits hc2) hP hD hS my_X2_litUnits kl_X2_127 ⟨rfl, rfl⟩ ⟨Nat.le_of_ble_eq_true rfl, Nat.le_of_ble_eq_true rfl⟩ (q0 := 0) (ci := 2) rfl wdW_0 rfl hl.1 rfl (Nat.le_of_ble_eq_true rfl) dX2_darkTogether_15 ⟨Nat.zero_le _, Nat.zero_le _⟩ (fun H locs hP hD hS => ?_)
      obtain ⟨r5, hc4, hf⟩ := zq_b1_s hf
      refine zNI (ws' := (wdW ad cy n)) (rest := [.int x1]) C0 (fun _ h => h) zF.nil (c_X3_darkestStretch hc4) hP hD hS my_X3_darkestStretch C0.2.2.2.2.2.2.2.2.2.2 ⟨rfl, rfl⟩ ⟨Nat.le_of_ble_eq_true rfl, Nat.le_of_ble_eq_true rfl⟩ rfl hl.1 rfl (Nat.le_of_ble_eq_true rfl) dX2_darkTogether_18 ⟨Nat.zero_le _, Nat.zero_le _⟩ (fun H locs hP hD hS => ?_)
      refine lv_iadd hx hb dX2_darkTogether_21 ?_
      refine lv_istore_n (lv' := [(1, .int (x1 + r5)), (0, .ref (ad 0)), (2, .int x2)]) hx hb dX2_darkTogether_22 rfl hl (by decide) rfl (fun ls hl => ?_)
      refine lv_iinc (v := (x2 + 1)) (lv' := [(2, .int (x2 + 1)), (1, .int (x1 + r5)), (0, .ref (ad 0))]) hx hb dX2_darkTogether_23 hl (k := 2) rfl rfl (by decide) rfl (fun ls hl => ?_)
      refine lv_goto (tgt := 4) hx hb dX2_darkTogether_26 (by decide) ?_
      exact ih (x1 + r5) (x2 + 1) hf _ _ _ hP hD hS (lv_sub hl [2, 1, 0] rfl)
set_option maxHeartbeats 4000000 in
set_option maxRecDepth 100000 in
theorem c_X2_darkTogether {l : Launch} {D : va_G} {ad : Nat → Nat} {cy : Nat → ClassId} {n : zS}  {r0 : Int32} (hf : f_X2_darkTogether n = some r0) : zMI l yX2_darkTogether (zW yX2_darkTogether cX2_darkTogether 3 (some .int)) { frames := 3, cells := 0, slots := 0, locals := 68 } D cy [.ref (ad 0)] (wdW ad cy n) r0 (wdW ad cy n) := by
  unfold f_X2_darkTogether at hf
  refine zEI (ty := .int) (by decide) (Nat.le_of_ble_eq_true rfl) ?_
  intro p e s9 m9 below meth c A Q C0 hret ls hl hP hD
  have hl : lv_has ls 3 [(0, .ref (ad 0))] := hl
  have hS : va_S A s9.heap s9.heap [] := va_S.rf
  obtain ⟨hx, hb, hml, hown, hts⟩ := id C0.1
  refine lv_iconst (v := 0) hx hb dX2_darkTogether_0 (by decide) ?_
  refine lv_istore_n (lv' := [(1, .int 0), (0, .ref (ad 0))]) hx hb dX2_darkTogether_1 rfl hl (by decide) rfl (fun ls hl => ?_)
  refine lv_iconst (v := 0) hx hb dX2_darkTogether_2 (by decide) ?_
  refine lv_istore_n (lv' := [(2, .int 0), (1, .int 0), (0, .ref (ad 0))]) hx hb dX2_darkTogether_3 rfl hl (by decide) rfl (fun ls hl => ?_)
  obtain ⟨y7, hL6, hf⟩ := zq_b1_s hf
  refine w_X2_darkTogether_L4 C0 (fun H locs ls hP hD hS hl => ?_) 100 0 0 hL6 _ _ _ hP hD hS (lv_sub hl [2, 1, 0] rfl)
  refine lv_iload_n hx hb dX2_darkTogether_29 rfl (lv_at hl 0 rfl) ?_
  obtain rfl := Option.some.inj hf
  exact hret _ _ _ _ rfl dX2_darkTogether_30 hP hD hS

def f_X2_ghostUnits (n : zS) (x1 : Int32) : Option (Int32) :=
  zq_rd (n 5) 16 x1 (fun v1 =>
  zq_rd (n 1) 4 v1 (fun v3 =>
  if x1 = v3 then (
  some 0) else (
  zq_b1 (f_X2_litUnits n (x1 - 1)) (fun r8 =>
  zq_b1 (f_X2_litUnits n x1) (fun r10 =>
  some (r8 &&& (r10 ^^^ (-1))))))))
set_option maxHeartbeats 4000000 in
set_option maxRecDepth 100000 in
theorem c_X2_ghostUnits {l : Launch} {D : va_G} {ad : Nat → Nat} {cy : Nat → ClassId} {n : zS} {x1 : Int32} {r0 : Int32} (hf : f_X2_ghostUnits n x1 = some r0) : zMI l yX2_ghostUnits (zW yX2_ghostUnits cX2_ghostUnits 3 (some .int)) { frames := 3, cells := 0, slots := 0, locals := 68 } D cy [.ref (ad 0), .int x1] (wdW ad cy n) r0 (wdW ad cy n) := by
  unfold f_X2_ghostUnits at hf
  refine zEI (ty := .int) (by decide) (Nat.le_of_ble_eq_true rfl) ?_
  intro p e s9 m9 below meth c A Q C0 hret ls hl hP hD
  have hl : lv_has ls 3 [(0, .ref (ad 0)), (1, .int x1)] := hl
  have hS : va_S A s9.heap s9.heap [] := va_S.rf
  obtain ⟨hx, hb, hml, hown, hts⟩ := id C0.1
  refine lv_iload_n hx hb dX2_ghostUnits_0 rfl (lv_at hl 1 rfl) ?_
  refine lv_aload_n hx hb dX2_ghostUnits_1 rfl (lv_at hl 0 rfl) ?_
  refine gf_X2_15 C0 hP 0 wdW_0 rfl dX2_ghostUnits_2 ?_
  refine lv_aload_n hx hb dX2_ghostUnits_5 rfl (lv_at hl 0 rfl) ?_
  refine gf_X2_28 C0 hP 0 wdW_0 rfl dX2_ghostUnits_6 ?_
  refine lv_iload_n hx hb dX2_ghostUnits_9 rfl (lv_at hl 1 rfl) ?_
  obtain ⟨v1, ev1, h2, hf⟩ := zq_rd_s hf
  refine zia C0 hP 6 wdW_6 ev1 h2 dX2_ghostUnits_10 ?_
  obtain ⟨v3, ev3, h4, hf⟩ := zq_rd_s hf
  refine zia C0 hP 2 wdW_2 ev3 h4 dX2_ghostUnits_11 ?_
  refine lv_icmp_ne (tgt := 19) hx hb dX2_ghostUnits_12 (by decide) (fun c5 => ?_) (fun c5 => ?_)
  · have hf := it_f c5 hf
    refine lv_iconst (v := 0) hx hb dX2_ghostUnits_19 (by decide) ?_
    refine lv_istore_n (lv' := [(2, .int 0), (0, .ref (ad 0)), (1, .int x1)]) hx hb dX2_ghostUnits_20 rfl hl (by decide) rfl (fun ls hl => ?_)
    refine lv_iload_n hx hb dX2_ghostUnits_21 rfl (lv_at hl 0 rfl) ?_
    refine lv_if_eq (tgt := 29) hx hb dX2_ghostUnits_22 (by decide) (fun c6 => ?_) (fun c6 => ?_)
    · refine lv_aload_n hx hb dX2_ghostUnits_29 rfl (lv_at hl 1 rfl) ?_
      refine lv_iload_n hx hb dX2_ghostUnits_30 rfl (lv_at hl 2 rfl) ?_
      refine lv_iconst (v := 1) hx hb dX2_ghostUnits_31 (by decide) ?_
      refine lv_isub hx hb dX2_ghostUnits_32 ?_
      obtain ⟨r8, hc7, hf⟩ := zq_b1_s hf
      refine zVI (ws' := (wdW ad cy n)) (rest := []) C0 (fun _ h => h) zF.id (c_X2_litUnits hc7) hP hD hS my_X2_litUnits kl_X2_127 ⟨rfl, rfl⟩ ⟨Nat.le_of_ble_eq_true rfl, Nat.le_of_ble_eq_true rfl⟩ (q0 := 0) (ci := 2) rfl wdW_0 rfl hl.1 rfl (Nat.le_of_ble_eq_true rfl) dX2_ghostUnits_33 ⟨Nat.zero_le _, Nat.zero_le _⟩ (fun H locs hP hD hS => ?_)
      refine lv_aload_n hx hb dX2_ghostUnits_36 rfl (lv_at hl 1 rfl) ?_
      refine lv_iload_n hx hb dX2_ghostUnits_37 rfl (lv_at hl 2 rfl) ?_
      obtain ⟨r10, hc9, hf⟩ := zq_b1_s hf
      refine zVI (ws' := (wdW ad cy n)) (rest := [.int r8]) C0 (fun _ h => h) zF.id (c_X2_litUnits hc9) hP hD hS my_X2_litUnits kl_X2_127 ⟨rfl, rfl⟩ ⟨Nat.le_of_ble_eq_true rfl, Nat.le_of_ble_eq_true rfl⟩ (q0 := 0) (ci := 2) rfl wdW_0 rfl hl.1 rfl (Nat.le_of_ble_eq_true rfl) dX2_ghostUnits_38 ⟨Nat.zero_le _, Nat.zero_le _⟩ (fun H locs hP hD hS => ?_)
      refine lv_iconst (v := (-1)) hx hb dX2_ghostUnits_41 (by decide) ?_
      refine lv_ixor hx hb dX2_ghostUnits_42 ?_
      refine lv_iand hx hb dX2_ghostUnits_43 ?_
      obtain rfl := Option.some.inj hf
      exact hret _ _ _ _ rfl dX2_ghostUnits_44 hP hD hS
    · exact absurd c6 (by decide)
  · have hf := it_t c5 hf
    refine lv_iconst (v := 1) hx hb dX2_ghostUnits_15 (by decide) ?_
    refine lv_goto (tgt := 20) hx hb dX2_ghostUnits_16 (by decide) ?_
    refine lv_istore_n (lv' := [(2, .int 1), (0, .ref (ad 0)), (1, .int x1)]) hx hb dX2_ghostUnits_20 rfl hl (by decide) rfl (fun ls hl => ?_)
    refine lv_iload_n hx hb dX2_ghostUnits_21 rfl (lv_at hl 0 rfl) ?_
    refine lv_if_eq (tgt := 29) hx hb dX2_ghostUnits_22 (by decide) (fun c11 => ?_) (fun c11 => ?_)
    · exact absurd c11 (by decide)
    · refine lv_iconst (v := 0) hx hb dX2_ghostUnits_25 (by decide) ?_
      refine lv_goto (tgt := 44) hx hb dX2_ghostUnits_26 (by decide) ?_
      obtain rfl := Option.some.inj hf
      exact hret _ _ _ _ rfl dX2_ghostUnits_44 hP hD hS

def f_X2_ghostsIn_L4 (n : zS) (x1 : Int32) : Nat → Int32 → Int32 → Option (Int32)
  | 0, _, _ => none
  | q9 + 1, x2, x3 =>
  if (n 9 0) ≤ x3 then (
  some x2) else (
  zq_b1 (f_X2_ghostUnits n x3) (fun r3 =>
  zq_b1 (f_X3_hasBit r3 x1) (fun r5 =>
  if r5 = 0 then (
  f_X2_ghostsIn_L4 n x1 q9 (x2 + 0) (x3 + 1)) else (
  f_X2_ghostsIn_L4 n x1 q9 (x2 + 1) (x3 + 1)))))
def f_X2_ghostsIn (n : zS) (x1 : Int32) : Option (Int32) :=
  zq_b1 (f_X2_ghostsIn_L4 n x1 100 0 0) (fun y8 =>
  some y8)
set_option maxHeartbeats 4000000 in
set_option maxRecDepth 100000 in
theorem w_X2_ghostsIn_L4 {l : Launch} {p : Program} {e : Env} {s9 : State} {m9 : MethodId} {ag : Array Value} {below : List Frame} {meth : Method} {c : Code} {A : Nat → Prop} {Q : State → Prop} {D : va_G} {ad : Nat → Nat} {cy : Nat → ClassId} {n : zS} {x1 : Int32} (C0 : zCx p s9 m9 ag c cX2_ghostsIn 4 RX2 D cy A)  {o2 : Int32} (e0 : ∀ (H : Heap) (locs : List Loc) (ls : Array Slot), va_P D vwCl (wdW ad cy n) H → va_D A (wdW ad cy n) → va_S A s9.heap H locs → lv_has ls 4 [(2, .int o2)] → W p l e { frames := 4, cells := 0, slots := 0, locals := 90 } s9 m9 ag below meth c H locs 0 0 Q (F0 m9 38 ls [])) : ∀ (q9 : Nat) (x2 : Int32) (x3 : Int32), f_X2_ghostsIn_L4 n x1 q9 x2 x3 = some o2 → ∀ (H : Heap) (locs : List Loc) (ls : Array Slot), va_P D vwCl (wdW ad cy n) H → va_D A (wdW ad cy n) → va_S A s9.heap H locs → lv_has ls 4 [(0, .ref (ad 0)), (1, .int x1), (2, .int x2), (3, .int x3)] → W p l e { frames := 4, cells := 0, slots := 0, locals := 90 } s9 m9 ag below meth c H locs 0 0 Q (F0 m9 4 ls []) := by
  obtain ⟨hx, hb, hml, hown, hts⟩ := id C0.1
  intro q9
  induction q9 with
  | zero =>
    intro x2 x3 hf
    rw [f_X2_ghostsIn_L4] at hf
    cases hf
  | succ q9 ih =>
    intro x2 x3 hf H locs ls hP hD hS hl
    rw [f_X2_ghostsIn_L4] at hf
    refine lv_iload_n hx hb dX2_ghostsIn_4 rfl (lv_at hl 3 rfl) ?_
    refine lv_aload_n hx hb dX2_ghostsIn_5 rfl (lv_at hl 0 rfl) ?_
    refine gf_X2_41 C0 hP 0 wdW_0 rfl dX2_ghostsIn_6 ?_
    refine lv_icmp_ge (tgt := 38) hx hb dX2_ghostsIn_9 (by decide) (fun c1 => ?_) (fun c1 => ?_)
    · have hf := it_t c1 hf
      obtain rfl := Option.some.inj hf
      exact e0 _ _ _ hP hD hS (lv_sub hl [2] rfl)
    · have hf := it_f c1 hf
      refine lv_iload_n hx hb dX2_ghostsIn_12 rfl (lv_at hl 2 rfl) ?_
      refine lv_aload_n hx hb dX2_ghostsIn_13 rfl (lv_at hl 0 rfl) ?_
      refine lv_iload_n hx hb dX2_ghostsIn_14 rfl (lv_at hl 3 rfl) ?_
      obtain ⟨r3, hc2, hf⟩ := zq_b1_s hf
      refine zVI (ws' := (wdW ad cy n)) (rest := [.int x2]) C0 (fun _ h => h) zF.id (c_X2_ghostUnits hc2) hP hD hS my_X2_ghostUnits kl_X2_133 ⟨rfl, rfl⟩ ⟨Nat.le_of_ble_eq_true rfl, Nat.le_of_ble_eq_true rfl⟩ (q0 := 0) (ci := 2) rfl wdW_0 rfl hl.1 rfl (Nat.le_of_ble_eq_true rfl) dX2_ghostsIn_15 ⟨Nat.zero_le _, Nat.zero_le _⟩ (fun H locs hP hD hS => ?_)
      refine lv_iload_n hx hb dX2_ghostsIn_18 rfl (lv_at hl 1 rfl) ?_
      obtain ⟨r5, hc4, hf⟩ := zq_b1_s hf
      refine zNI (ws' := (wdW ad cy n)) (rest := [.int x2]) C0 (fun _ h => h) zF.nil (c_X3_hasBit hc4) hP hD hS my_X3_hasBit C0.2.2.2.2.2.2.2.2.2.1 ⟨rfl, rfl⟩ ⟨Nat.le_of_ble_eq_true rfl, Nat.le_of_ble_eq_true rfl⟩ rfl hl.1 rfl (Nat.le_of_ble_eq_true rfl) dX2_ghostsIn_19 ⟨Nat.zero_le _, Nat.zero_le _⟩ (fun H locs hP hD hS => ?_)
      refine lv_if_eq (tgt := 29) hx hb dX2_ghostsIn_22 (by decide) (fun c6 => ?_) (fun c6 => ?_)
      · have hf := it_t c6 hf
        refine lv_iconst (v := 0) hx hb dX2_ghostsIn_29 (by decide) ?_
        refine lv_iadd hx hb dX2_ghostsIn_30 ?_
        refine lv_istore_n (lv' := [(2, .int (x2 + 0)), (0, .ref (ad 0)), (1, .int x1), (3, .int x3)]) hx hb dX2_ghostsIn_31 rfl hl (by decide) rfl (fun ls hl => ?_)
        refine lv_iinc (v := (x3 + 1)) (lv' := [(3, .int (x3 + 1)), (2, .int (x2 + 0)), (0, .ref (ad 0)), (1, .int x1)]) hx hb dX2_ghostsIn_32 hl (k := 3) rfl rfl (by decide) rfl (fun ls hl => ?_)
        refine lv_goto (tgt := 4) hx hb dX2_ghostsIn_35 (by decide) ?_
        exact ih (x2 + 0) (x3 + 1) hf _ _ _ hP hD hS (lv_sub hl [2, 3, 1, 0] rfl)
      · have hf := it_f c6 hf
        refine lv_iconst (v := 1) hx hb dX2_ghostsIn_25 (by decide) ?_
        refine lv_goto (tgt := 30) hx hb dX2_ghostsIn_26 (by decide) ?_
        refine lv_iadd hx hb dX2_ghostsIn_30 ?_
        refine lv_istore_n (lv' := [(2, .int (x2 + 1)), (0, .ref (ad 0)), (1, .int x1), (3, .int x3)]) hx hb dX2_ghostsIn_31 rfl hl (by decide) rfl (fun ls hl => ?_)
        refine lv_iinc (v := (x3 + 1)) (lv' := [(3, .int (x3 + 1)), (2, .int (x2 + 1)), (0, .ref (ad 0)), (1, .int x1)]) hx hb dX2_ghostsIn_32 hl (k := 3) rfl rfl (by decide) rfl (fun ls hl => ?_)
        refine lv_goto (tgt := 4) hx hb dX2_ghostsIn_35 (by decide) ?_
        exact ih (x2 + 1) (x3 + 1) hf _ _ _ hP hD hS (lv_sub hl [2, 3, 1, 0] rfl)
set_option maxHeartbeats 4000000 in
set_option maxRecDepth 100000 in
theorem c_X2_ghostsIn {l : Launch} {D : va_G} {ad : Nat → Nat} {cy : Nat → ClassId} {n : zS} {x1 : Int32} {r0 : Int32} (hf : f_X2_ghostsIn n x1 = some r0) : zMI l yX2_ghostsIn (zW yX2_ghostsIn cX2_ghostsIn 4 (some .int)) { frames := 4, cells := 0, slots := 0, locals := 90 } D cy [.ref (ad 0), .int x1] (wdW ad cy n) r0 (wdW ad cy n) := by
  unfold f_X2_ghostsIn at hf
  refine zEI (ty := .int) (by decide) (Nat.le_of_ble_eq_true rfl) ?_
  intro p e s9 m9 below meth c A Q C0 hret ls hl hP hD
  have hl : lv_has ls 4 [(0, .ref (ad 0)), (1, .int x1)] := hl
  have hS : va_S A s9.heap s9.heap [] := va_S.rf
  obtain ⟨hx, hb, hml, hown, hts⟩ := id C0.1
  refine lv_iconst (v := 0) hx hb dX2_ghostsIn_0 (by decide) ?_
  refine lv_istore_n (lv' := [(2, .int 0), (0, .ref (ad 0)), (1, .int x1)]) hx hb dX2_ghostsIn_1 rfl hl (by decide) rfl (fun ls hl => ?_)
  refine lv_iconst (v := 0) hx hb dX2_ghostsIn_2 (by decide) ?_
  refine lv_istore_n (lv' := [(3, .int 0), (2, .int 0), (0, .ref (ad 0)), (1, .int x1)]) hx hb dX2_ghostsIn_3 rfl hl (by decide) rfl (fun ls hl => ?_)
  obtain ⟨y8, hL7, hf⟩ := zq_b1_s hf
  refine w_X2_ghostsIn_L4 C0 (fun H locs ls hP hD hS hl => ?_) 100 0 0 hL7 _ _ _ hP hD hS (lv_sub hl [2, 3, 1, 0] rfl)
  refine lv_iload_n hx hb dX2_ghostsIn_38 rfl (lv_at hl 0 rfl) ?_
  obtain rfl := Option.some.inj hf
  exact hret _ _ _ _ rfl dX2_ghostsIn_39 hP hD hS

def f_X2_ghostsTogether_L4 (n : zS) : Nat → Int32 → Int32 → Option (Int32)
  | 0, _, _ => none
  | q9 + 1, x1, x2 =>
  if (n 9 0) ≤ x2 then (
  some x1) else (
  zq_b1 (f_X2_ghostUnits n x2) (fun r3 =>
  zq_b1 (f_J6_bitCount_0f7a4 r3) (fun r5 =>
  f_X2_ghostsTogether_L4 n q9 (x1 + r5) (x2 + 1))))
def f_X2_ghostsTogether (n : zS)  : Option (Int32) :=
  zq_b1 (f_X2_ghostsTogether_L4 n 100 0 0) (fun y7 =>
  some y7)
set_option maxHeartbeats 4000000 in
set_option maxRecDepth 100000 in
theorem w_X2_ghostsTogether_L4 {l : Launch} {p : Program} {e : Env} {s9 : State} {m9 : MethodId} {ag : Array Value} {below : List Frame} {meth : Method} {c : Code} {A : Nat → Prop} {Q : State → Prop} {D : va_G} {ad : Nat → Nat} {cy : Nat → ClassId} {n : zS} (C0 : zCx p s9 m9 ag c cX2_ghostsTogether 3 RX2 D cy A)  {o1 : Int32} (e0 : ∀ (H : Heap) (locs : List Loc) (ls : Array Slot), va_P D vwCl (wdW ad cy n) H → va_D A (wdW ad cy n) → va_S A s9.heap H locs → lv_has ls 3 [(1, .int o1)] → W p l e { frames := 4, cells := 0, slots := 0, locals := 90 } s9 m9 ag below meth c H locs 0 0 Q (F0 m9 29 ls [])) : ∀ (q9 : Nat) (x1 : Int32) (x2 : Int32), f_X2_ghostsTogether_L4 n q9 x1 x2 = some o1 → ∀ (H : Heap) (locs : List Loc) (ls : Array Slot), va_P D vwCl (wdW ad cy n) H → va_D A (wdW ad cy n) → va_S A s9.heap H locs → lv_has ls 3 [(0, .ref (ad 0)), (1, .int x1), (2, .int x2)] → W p l e { frames := 4, cells := 0, slots := 0, locals := 90 } s9 m9 ag below meth c H locs 0 0 Q (F0 m9 4 ls []) := by
  obtain ⟨hx, hb, hml, hown, hts⟩ := id C0.1
  intro q9
  induction q9 with
  | zero =>
    intro x1 x2 hf
    rw [f_X2_ghostsTogether_L4] at hf
    cases hf
  | succ q9 ih =>
    intro x1 x2 hf H locs ls hP hD hS hl
    rw [f_X2_ghostsTogether_L4] at hf
    refine lv_iload_n hx hb dX2_ghostsTogether_4 rfl (lv_at hl 2 rfl) ?_
    refine lv_aload_n hx hb dX2_ghostsTogether_5 rfl (lv_at hl 0 rfl) ?_
    refine gf_X2_41 C0 hP 0 wdW_0 rfl dX2_ghostsTogether_6 ?_
    refine lv_icmp_ge (tgt := 29) hx hb dX2_ghostsTogether_9 (by decide) (fun c1 => ?_) (fun c1 => ?_)
    · have hf := it_t c1 hf
      obtain rfl := Option.some.inj hf
      exact e0 _ _ _ hP hD hS (lv_sub hl [1] rfl)
    · have hf := it_f c1 hf
      refine lv_iload_n hx hb dX2_ghostsTogether_12 rfl (lv_at hl 1 rfl) ?_
      refine lv_aload_n hx hb dX2_ghostsTogether_13 rfl (lv_at hl 0 rfl) ?_
      refine lv_iload_n hx hb dX2_ghostsTogether_14 rfl (lv_at hl 2 rfl) ?_
      obtain ⟨r3, hc2, hf⟩ := zq_b1_s hf
      refine zVI (ws' := (wdW ad cy n)) (rest := [.int x1]) C0 (fun _ h => h) zF.id (c_X2_ghostUnits hc2) hP hD hS my_X2_ghostUnits kl_X2_133 ⟨rfl, rfl⟩ ⟨Nat.le_of_ble_eq_true rfl, Nat.le_of_ble_eq_true rfl⟩ (q0 := 0) (ci := 2) rfl wdW_0 rfl hl.1 rfl (Nat.le_of_ble_eq_true rfl) dX2_ghostsTogether_15 ⟨Nat.zero_le _, Nat.zero_le _⟩ (fun H locs hP hD hS => ?_)
      obtain ⟨r5, hc4, hf⟩ := zq_b1_s hf
      refine zSI (ws' := (wdW ad cy n)) (rest := [.int x1]) C0 (fun _ h => h) zF.nil (c_J6_bitCount_0f7a4 hc4) hP hD hS my_J6_bitCount_0f7a4 kl_X2_122 ⟨rfl, rfl⟩ ⟨Nat.le_of_ble_eq_true rfl, Nat.le_of_ble_eq_true rfl⟩ rfl hl.1 rfl (Nat.le_of_ble_eq_true rfl) dX2_ghostsTogether_18 ⟨Nat.zero_le _, Nat.zero_le _⟩ (fun H locs hP hD hS => ?_)
      refine lv_iadd hx hb dX2_ghostsTogether_21 ?_
      refine lv_istore_n (lv' := [(1, .int (x1 + r5)), (0, .ref (ad 0)), (2, .int x2)]) hx hb dX2_ghostsTogether_22 rfl hl (by decide) rfl (fun ls hl => ?_)
      refine lv_iinc (v := (x2 + 1)) (lv' := [(2, .int (x2 + 1)), (1, .int (x1 + r5)), (0, .ref (ad 0))]) hx hb dX2_ghostsTogether_23 hl (k := 2) rfl rfl (by decide) rfl (fun ls hl => ?_)
      refine lv_goto (tgt := 4) hx hb dX2_ghostsTogether_26 (by decide) ?_
      exact ih (x1 + r5) (x2 + 1) hf _ _ _ hP hD hS (lv_sub hl [2, 1, 0] rfl)
set_option maxHeartbeats 4000000 in
set_option maxRecDepth 100000 in
theorem c_X2_ghostsTogether {l : Launch} {D : va_G} {ad : Nat → Nat} {cy : Nat → ClassId} {n : zS}  {r0 : Int32} (hf : f_X2_ghostsTogether n = some r0) : zMI l yX2_ghostsTogether (zW yX2_ghostsTogether cX2_ghostsTogether 3 (some .int)) { frames := 4, cells := 0, slots := 0, locals := 90 } D cy [.ref (ad 0)] (wdW ad cy n) r0 (wdW ad cy n) := by
  unfold f_X2_ghostsTogether at hf
  refine zEI (ty := .int) (by decide) (Nat.le_of_ble_eq_true rfl) ?_
  intro p e s9 m9 below meth c A Q C0 hret ls hl hP hD
  have hl : lv_has ls 3 [(0, .ref (ad 0))] := hl
  have hS : va_S A s9.heap s9.heap [] := va_S.rf
  obtain ⟨hx, hb, hml, hown, hts⟩ := id C0.1
  refine lv_iconst (v := 0) hx hb dX2_ghostsTogether_0 (by decide) ?_
  refine lv_istore_n (lv' := [(1, .int 0), (0, .ref (ad 0))]) hx hb dX2_ghostsTogether_1 rfl hl (by decide) rfl (fun ls hl => ?_)
  refine lv_iconst (v := 0) hx hb dX2_ghostsTogether_2 (by decide) ?_
  refine lv_istore_n (lv' := [(2, .int 0), (1, .int 0), (0, .ref (ad 0))]) hx hb dX2_ghostsTogether_3 rfl hl (by decide) rfl (fun ls hl => ?_)
  obtain ⟨y7, hL6, hf⟩ := zq_b1_s hf
  refine w_X2_ghostsTogether_L4 C0 (fun H locs ls hP hD hS hl => ?_) 100 0 0 hL6 _ _ _ hP hD hS (lv_sub hl [2, 1, 0] rfl)
  refine lv_iload_n hx hb dX2_ghostsTogether_29 rfl (lv_at hl 0 rfl) ?_
  obtain rfl := Option.some.inj hf
  exact hret _ _ _ _ rfl dX2_ghostsTogether_30 hP hD hS

def f_X3_isSheet  (x0 : Int32) : Option (Int32) :=
  if x0 < 0 then (
  some 0) else (
  if 4 ≤ x0 then (
  some 0) else (
  some 1))
set_option maxHeartbeats 4000000 in
set_option maxRecDepth 100000 in
theorem c_X3_isSheet {l : Launch} {D : va_G} {cy : Nat → ClassId}   {x0 : Int32} {r0 : Int32} (hf : f_X3_isSheet x0 = some r0) : zMI l yX3_isSheet (zW yX3_isSheet cX3_isSheet 1 (some .boolean)) { frames := 0, cells := 0, slots := 0, locals := 0 } D cy [.int x0] [] r0 [] := by
  unfold f_X3_isSheet at hf
  refine zEI (ty := .boolean) (by decide) (Nat.le_of_ble_eq_true rfl) ?_
  intro p e s9 m9 below meth c A Q C0 hret ls hl hP hD
  have hl : lv_has ls 1 [(0, .int x0)] := hl
  have hS : va_S A s9.heap s9.heap [] := va_S.rf
  obtain ⟨hx, hb, hml, hown, hts⟩ := id C0.1
  refine lv_iload_n hx hb dX3_isSheet_0 rfl (lv_at hl 0 rfl) ?_
  refine lv_if_lt (tgt := 13) hx hb dX3_isSheet_1 (by decide) (fun c1 => ?_) (fun c1 => ?_)
  · have hf := it_t c1 hf
    refine lv_iconst (v := 0) hx hb dX3_isSheet_13 (by decide) ?_
    obtain rfl := Option.some.inj hf
    exact hret _ _ _ _ rfl dX3_isSheet_14 hP hD hS
  · have hf := it_f c1 hf
    refine lv_iload_n hx hb dX3_isSheet_4 rfl (lv_at hl 0 rfl) ?_
    refine lv_iconst (v := 4) hx hb dX3_isSheet_5 (by decide) ?_
    refine lv_icmp_ge (tgt := 13) hx hb dX3_isSheet_6 (by decide) (fun c2 => ?_) (fun c2 => ?_)
    · have hf := it_t c2 hf
      refine lv_iconst (v := 0) hx hb dX3_isSheet_13 (by decide) ?_
      obtain rfl := Option.some.inj hf
      exact hret _ _ _ _ rfl dX3_isSheet_14 hP hD hS
    · have hf := it_f c2 hf
      refine lv_iconst (v := 1) hx hb dX3_isSheet_9 (by decide) ?_
      refine lv_goto (tgt := 14) hx hb dX3_isSheet_10 (by decide) ?_
      obtain rfl := Option.some.inj hf
      exact hret _ _ _ _ rfl dX3_isSheet_14 hP hD hS

def f_X3_isLane  (x0 : Int32) : Option (Int32) :=
  if x0 < 0 then (
  some 0) else (
  if 3 ≤ x0 then (
  some 0) else (
  some 1))
set_option maxHeartbeats 4000000 in
set_option maxRecDepth 100000 in
theorem c_X3_isLane {l : Launch} {D : va_G} {cy : Nat → ClassId}   {x0 : Int32} {r0 : Int32} (hf : f_X3_isLane x0 = some r0) : zMI l yX3_isLane (zW yX3_isLane cX3_isLane 1 (some .boolean)) { frames := 0, cells := 0, slots := 0, locals := 0 } D cy [.int x0] [] r0 [] := by
  unfold f_X3_isLane at hf
  refine zEI (ty := .boolean) (by decide) (Nat.le_of_ble_eq_true rfl) ?_
  intro p e s9 m9 below meth c A Q C0 hret ls hl hP hD
  have hl : lv_has ls 1 [(0, .int x0)] := hl
  have hS : va_S A s9.heap s9.heap [] := va_S.rf
  obtain ⟨hx, hb, hml, hown, hts⟩ := id C0.1
  refine lv_iload_n hx hb dX3_isLane_0 rfl (lv_at hl 0 rfl) ?_
  refine lv_if_lt (tgt := 13) hx hb dX3_isLane_1 (by decide) (fun c1 => ?_) (fun c1 => ?_)
  · have hf := it_t c1 hf
    refine lv_iconst (v := 0) hx hb dX3_isLane_13 (by decide) ?_
    obtain rfl := Option.some.inj hf
    exact hret _ _ _ _ rfl dX3_isLane_14 hP hD hS
  · have hf := it_f c1 hf
    refine lv_iload_n hx hb dX3_isLane_4 rfl (lv_at hl 0 rfl) ?_
    refine lv_iconst (v := 3) hx hb dX3_isLane_5 (by decide) ?_
    refine lv_icmp_ge (tgt := 13) hx hb dX3_isLane_6 (by decide) (fun c2 => ?_) (fun c2 => ?_)
    · have hf := it_t c2 hf
      refine lv_iconst (v := 0) hx hb dX3_isLane_13 (by decide) ?_
      obtain rfl := Option.some.inj hf
      exact hret _ _ _ _ rfl dX3_isLane_14 hP hD hS
    · have hf := it_f c2 hf
      refine lv_iconst (v := 1) hx hb dX3_isLane_9 (by decide) ?_
      refine lv_goto (tgt := 14) hx hb dX3_isLane_10 (by decide) ?_
      obtain rfl := Option.some.inj hf
      exact hret _ _ _ _ rfl dX3_isLane_14 hP hD hS

def f_X3_faulted (o : zS) (x1 : Int32) : Option (Int32 × zS) :=
  zq_lt (va_up o 6 (fun _ => x1)) (fun o1 =>
  some (((-10) - x1), o1))
set_option maxHeartbeats 4000000 in
set_option maxRecDepth 100000 in
theorem c_X3_faulted {l : Launch} {D : va_G} {ad : Nat → Nat} {cy : Nat → ClassId} {o : zS} {s : zS4} {n : zS} {t : zS} {r : zS} {w : zJ} {x1 : Int32} {r0 : Int32} {o' : zS} (hf : f_X3_faulted o x1 = some (r0, o')) : zMI l yX3_faulted (zW yX3_faulted cX3_faulted 2 (some .int)) { frames := 0, cells := 0, slots := 0, locals := 0 } D cy [.ref (ad 0), .int x1] (wdX ad cy o s n t r w) r0 (wdX ad cy o' s n t r w) := by
  unfold f_X3_faulted at hf
  refine zEI (ty := .int) (by decide) (Nat.le_of_ble_eq_true rfl) ?_
  intro p e s9 m9 below meth c A Q C0 hret ls hl hP hD
  have hl : lv_has ls 2 [(0, .ref (ad 0)), (1, .int x1)] := hl
  have hS : va_S A s9.heap s9.heap [] := va_S.rf
  obtain ⟨hx, hb, hml, hown, hts⟩ := id C0.1
  refine lv_aload_n hx hb dX3_faulted_0 rfl (lv_at hl 0 rfl) ?_
  refine lv_iload_n hx hb dX3_faulted_1 rfl (lv_at hl 1 rfl) ?_
  obtain ⟨o1, eo1, hf⟩ := zq_lt_s hf
  refine pf_X3_42 (ws' := (wdX ad cy o1 s n t r w)) C0 hP hD hS 0 wdX_0 (Nat.le_of_ble_eq_true rfl) (by rw [eo1]; rfl) dX3_faulted_2 (fun H locs hP hD hS => ?_)
  refine lv_bipush (v := (-10)) hx hb dX3_faulted_5 (by decide) ?_
  refine lv_iload_n hx hb dX3_faulted_7 rfl (lv_at hl 1 rfl) ?_
  refine lv_isub hx hb dX3_faulted_8 ?_
  obtain ⟨rfl, rfl⟩ := zq_j2 hf
  exact hret _ _ _ _ rfl dX3_faulted_9 hP hD hS
