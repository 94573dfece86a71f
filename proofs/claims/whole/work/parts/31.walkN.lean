def f_X4_lightBy  (x0 : Int32) (x1 : Int32) : Option (Int32) :=
  if x0 = 0 then (
  some x1) else (
  if x0 = 1 then (
  some (x1 / 2)) else (
  some ((x1 / 2) + x1)))
set_option maxHeartbeats 4000000 in
set_option maxRecDepth 100000 in
theorem c_X4_lightBy {l : Launch} {D : va_G} {cy : Nat → ClassId}   {x0 : Int32} {x1 : Int32} {r0 : Int32} (hf : f_X4_lightBy x0 x1 = some r0) : zMI l yX4_lightBy (zW yX4_lightBy cX4_lightBy 2 (some .int)) { frames := 0, cells := 0, slots := 0, locals := 0 } D cy [.int x0, .int x1] [] r0 [] := by
  unfold f_X4_lightBy at hf
  refine zEI (ty := .int) (by decide) (Nat.le_of_ble_eq_true rfl) ?_
  intro p e s9 m9 below meth c A Q C0 hret ls hl hP hD
  have hl : lv_has ls 2 [(0, .int x0), (1, .int x1)] := hl
  have hS : va_S A s9.heap s9.heap [] := va_S.rf
  obtain ⟨hx, hb, hml, hown, hts⟩ := id C0.1
  refine lv_iload_n hx hb dX4_lightBy_0 rfl (lv_at hl 0 rfl) ?_
  refine lv_if_ne (tgt := 8) hx hb dX4_lightBy_1 (by decide) (fun c1 => ?_) (fun c1 => ?_)
  · have hf := it_f c1 hf
    refine lv_iload_n hx hb dX4_lightBy_8 rfl (lv_at hl 0 rfl) ?_
    refine lv_iconst (v := 1) hx hb dX4_lightBy_9 (by decide) ?_
    refine lv_icmp_ne (tgt := 19) hx hb dX4_lightBy_10 (by decide) (fun c2 => ?_) (fun c2 => ?_)
    · have hf := it_f c2 hf
      refine lv_iload_n hx hb dX4_lightBy_19 rfl (lv_at hl 1 rfl) ?_
      refine lv_iconst (v := 2) hx hb dX4_lightBy_20 (by decide) ?_
      refine lv_idiv hx hb dX4_lightBy_21 (by decide) ?_
      refine lv_iload_n hx hb dX4_lightBy_22 rfl (lv_at hl 1 rfl) ?_
      refine lv_iadd hx hb dX4_lightBy_23 ?_
      obtain rfl := Option.some.inj hf
      exact hret _ _ _ _ rfl dX4_lightBy_24 hP hD hS
    · have hf := it_t c2 hf
      refine lv_iload_n hx hb dX4_lightBy_13 rfl (lv_at hl 1 rfl) ?_
      refine lv_iconst (v := 2) hx hb dX4_lightBy_14 (by decide) ?_
      refine lv_idiv hx hb dX4_lightBy_15 (by decide) ?_
      refine lv_goto (tgt := 24) hx hb dX4_lightBy_16 (by decide) ?_
      obtain rfl := Option.some.inj hf
      exact hret _ _ _ _ rfl dX4_lightBy_24 hP hD hS
  · have hf := it_t c1 hf
    refine lv_iload_n hx hb dX4_lightBy_4 rfl (lv_at hl 1 rfl) ?_
    refine lv_goto (tgt := 24) hx hb dX4_lightBy_5 (by decide) ?_
    obtain rfl := Option.some.inj hf
    exact hret _ _ _ _ rfl dX4_lightBy_24 hP hD hS

def f_X4_light (g : zS) (x1 : Int32) : Option (Int32) :=
  zq_rd (g 9) 16 x1 (fun v1 =>
  zq_rd (g 7) 4 v1 (fun v3 =>
  if v3 = 1 then (
  some 0) else (
  zq_rd (g 4) 4 v1 (fun v6 =>
  zq_rd (g 8) 16 x1 (fun v8 =>
  zq_b1 (f_X4_lightBy v6 v8) (fun r11 =>
  some r11))))))
set_option maxHeartbeats 4000000 in
set_option maxRecDepth 100000 in
theorem c_X4_light {l : Launch} {D : va_G} {ad : Nat → Nat} {cy : Nat → ClassId} {g : zS} {u : zJ} {x1 : Int32} {r0 : Int32} (hf : f_X4_light g x1 = some r0) : zMI l yX4_light (zW yX4_light cX4_light 3 (some .int)) { frames := 1, cells := 0, slots := 0, locals := 21 } D cy [.ref (ad 0), .int x1] (wdM ad cy g u) r0 (wdM ad cy g u) := by
  unfold f_X4_light at hf
  refine zEI (ty := .int) (by decide) (Nat.le_of_ble_eq_true rfl) ?_
  intro p e s9 m9 below meth c A Q C0 hret ls hl hP hD
  have hl : lv_has ls 3 [(0, .ref (ad 0)), (1, .int x1)] := hl
  have hS : va_S A s9.heap s9.heap [] := va_S.rf
  obtain ⟨hx, hb, hml, hown, hts⟩ := id C0.1
  refine lv_aload_n hx hb dX4_light_0 rfl (lv_at hl 0 rfl) ?_
  refine gf_X4_25 C0 hP 0 wdM_0 rfl dX4_light_1 ?_
  refine lv_iload_n hx hb dX4_light_4 rfl (lv_at hl 1 rfl) ?_
  obtain ⟨v1, ev1, h2, hf⟩ := zq_rd_s hf
  refine zia C0 hP 6 wdM_6 ev1 h2 dX4_light_5 ?_
  refine lv_istore_n (lv' := [(2, .int v1), (0, .ref (ad 0)), (1, .int x1)]) hx hb dX4_light_6 rfl hl (by decide) rfl (fun ls hl => ?_)
  refine lv_aload_n hx hb dX4_light_7 rfl (lv_at hl 1 rfl) ?_
  refine gf_X4_19 C0 hP 0 wdM_0 rfl dX4_light_8 ?_
  refine lv_iload_n hx hb dX4_light_11 rfl (lv_at hl 0 rfl) ?_
  obtain ⟨v3, ev3, h4, hf⟩ := zq_rd_s hf
  refine zia C0 hP 4 wdM_4 ev3 h4 dX4_light_12 ?_
  refine lv_iconst (v := 1) hx hb dX4_light_13 (by decide) ?_
  refine lv_icmp_ne (tgt := 21) hx hb dX4_light_14 (by decide) (fun c5 => ?_) (fun c5 => ?_)
  · have hf := it_f c5 hf
    refine lv_aload_n hx hb dX4_light_21 rfl (lv_at hl 1 rfl) ?_
    refine gf_X4_7 C0 hP 0 wdM_0 rfl dX4_light_22 ?_
    refine lv_iload_n hx hb dX4_light_25 rfl (lv_at hl 0 rfl) ?_
    obtain ⟨v6, ev6, h7, hf⟩ := zq_rd_s hf
    refine zia C0 hP 1 wdM_1 ev6 h7 dX4_light_26 ?_
    refine lv_aload_n hx hb dX4_light_27 rfl (lv_at hl 1 rfl) ?_
    refine gf_X4_22 C0 hP 0 wdM_0 rfl dX4_light_28 ?_
    refine lv_iload_n hx hb dX4_light_31 rfl (lv_at hl 2 rfl) ?_
    obtain ⟨v8, ev8, h9, hf⟩ := zq_rd_s hf
    refine zia C0 hP 5 wdM_5 ev8 h9 dX4_light_32 ?_
    obtain ⟨r11, hc10, hf⟩ := zq_b1_s hf
    refine zSI (ws' := (wdM ad cy g u)) (rest := []) C0 (fun _ h => h) zF.nil (c_X4_lightBy hc10) hP hD hS my_X4_lightBy kl_X4_150 ⟨rfl, rfl⟩ ⟨Nat.le_of_ble_eq_true rfl, Nat.le_of_ble_eq_true rfl⟩ rfl hl.1 rfl (Nat.le_of_ble_eq_true rfl) dX4_light_33 ⟨Nat.zero_le _, Nat.zero_le _⟩ (fun H locs hP hD hS => ?_)
    obtain rfl := Option.some.inj hf
    exact hret _ _ _ _ rfl dX4_light_36 hP hD hS
  · have hf := it_t c5 hf
    refine lv_iconst (v := 0) hx hb dX4_light_17 (by decide) ?_
    refine lv_goto (tgt := 36) hx hb dX4_light_18 (by decide) ?_
    obtain rfl := Option.some.inj hf
    exact hret _ _ _ _ rfl dX4_light_36 hP hD hS

def f_X4_lightOfAll_L4 (g : zS) : Nat → Int32 → Int32 → Option (Int32)
  | 0, _, _ => none
  | q9 + 1, x1, x2 =>
  if (g 2 0) ≤ x2 then (
  some x1) else (
  zq_b1 (f_X4_light g x2) (fun r3 =>
  f_X4_lightOfAll_L4 g q9 (x1 + r3) (x2 + 1)))
def f_X4_lightOfAll (g : zS)  : Option (Int32) :=
  zq_b1 (f_X4_lightOfAll_L4 g 100 0 0) (fun y5 =>
  some y5)
set_option maxHeartbeats 4000000 in
set_option maxRecDepth 100000 in
theorem w_X4_lightOfAll_L4 {l : Launch} {p : Program} {e : Env} {s9 : State} {m9 : MethodId} {ag : Array Value} {below : List Frame} {meth : Method} {c : Code} {A : Nat → Prop} {Q : State → Prop} {D : va_G} {ad : Nat → Nat} {cy : Nat → ClassId} {g : zS} {u : zJ} (C0 : zCx p s9 m9 ag c cX4_lightOfAll 3 RX4 D cy A)  {o1 : Int32} (e0 : ∀ (H : Heap) (locs : List Loc) (ls : Array Slot), va_P D vwCl (wdM ad cy g u) H → va_D A (wdM ad cy g u) → va_S A s9.heap H locs → lv_has ls 3 [(1, .int o1)] → W p l e { frames := 2, cells := 0, slots := 0, locals := 43 } s9 m9 ag below meth c H locs 0 0 Q (F0 m9 26 ls [])) : ∀ (q9 : Nat) (x1 : Int32) (x2 : Int32), f_X4_lightOfAll_L4 g q9 x1 x2 = some o1 → ∀ (H : Heap) (locs : List Loc) (ls : Array Slot), va_P D vwCl (wdM ad cy g u) H → va_D A (wdM ad cy g u) → va_S A s9.heap H locs → lv_has ls 3 [(0, .ref (ad 0)), (1, .int x1), (2, .int x2)] → W p l e { frames := 2, cells := 0, slots := 0, locals := 43 } s9 m9 ag below meth c H locs 0 0 Q (F0 m9 4 ls []) := by
  obtain ⟨hx, hb, hml, hown, hts⟩ := id C0.1
  intro q9
  induction q9 with
  | zero =>
    intro x1 x2 hf
    rw [f_X4_lightOfAll_L4] at hf
    cases hf
  | succ q9 ih =>
    intro x1 x2 hf H locs ls hP hD hS hl
    rw [f_X4_lightOfAll_L4] at hf
    refine lv_iload_n hx hb dX4_lightOfAll_4 rfl (lv_at hl 2 rfl) ?_
    refine lv_aload_n hx hb dX4_lightOfAll_5 rfl (lv_at hl 0 rfl) ?_
    refine gf_X4_91 C0 hP 0 wdM_0 rfl dX4_lightOfAll_6 ?_
    refine lv_icmp_ge (tgt := 26) hx hb dX4_lightOfAll_9 (by decide) (fun c1 => ?_) (fun c1 => ?_)
    · have hf := it_t c1 hf
      obtain rfl := Option.some.inj hf
      exact e0 _ _ _ hP hD hS (lv_sub hl [1] rfl)
    · have hf := it_f c1 hf
      refine lv_iload_n hx hb dX4_lightOfAll_12 rfl (lv_at hl 1 rfl) ?_
      refine lv_aload_n hx hb dX4_lightOfAll_13 rfl (lv_at hl 0 rfl) ?_
      refine lv_iload_n hx hb dX4_lightOfAll_14 rfl (lv_at hl 2 rfl) ?_
      obtain ⟨r3, hc2, hf⟩ := zq_b1_s hf
      refine zVI (ws' := (wdM ad cy g u)) (rest := [.int x1]) C0 (fun _ h => h) zF.id (c_X4_light hc2) hP hD hS my_X4_light kl_X4_153 ⟨rfl, rfl⟩ ⟨Nat.le_of_ble_eq_true rfl, Nat.le_of_ble_eq_true rfl⟩ (q0 := 0) (ci := 4) rfl wdM_0 rfl hl.1 rfl (Nat.le_of_ble_eq_true rfl) dX4_lightOfAll_15 ⟨Nat.zero_le _, Nat.zero_le _⟩ (fun H locs hP hD hS => ?_)
      refine lv_iadd hx hb dX4_lightOfAll_18 ?_
      refine lv_istore_n (lv' := [(1, .int (x1 + r3)), (0, .ref (ad 0)), (2, .int x2)]) hx hb dX4_lightOfAll_19 rfl hl (by decide) rfl (fun ls hl => ?_)
      refine lv_iinc (v := (x2 + 1)) (lv' := [(2, .int (x2 + 1)), (1, .int (x1 + r3)), (0, .ref (ad 0))]) hx hb dX4_lightOfAll_20 hl (k := 2) rfl rfl (by decide) rfl (fun ls hl => ?_)
      refine lv_goto (tgt := 4) hx hb dX4_lightOfAll_23 (by decide) ?_
      exact ih (x1 + r3) (x2 + 1) hf _ _ _ hP hD hS (lv_sub hl [2, 1, 0] rfl)
set_option maxHeartbeats 4000000 in
set_option maxRecDepth 100000 in
theorem c_X4_lightOfAll {l : Launch} {D : va_G} {ad : Nat → Nat} {cy : Nat → ClassId} {g : zS} {u : zJ}  {r0 : Int32} (hf : f_X4_lightOfAll g = some r0) : zMI l yX4_lightOfAll (zW yX4_lightOfAll cX4_lightOfAll 3 (some .int)) { frames := 2, cells := 0, slots := 0, locals := 43 } D cy [.ref (ad 0)] (wdM ad cy g u) r0 (wdM ad cy g u) := by
  unfold f_X4_lightOfAll at hf
  refine zEI (ty := .int) (by decide) (Nat.le_of_ble_eq_true rfl) ?_
  intro p e s9 m9 below meth c A Q C0 hret ls hl hP hD
  have hl : lv_has ls 3 [(0, .ref (ad 0))] := hl
  have hS : va_S A s9.heap s9.heap [] := va_S.rf
  obtain ⟨hx, hb, hml, hown, hts⟩ := id C0.1
  refine lv_iconst (v := 0) hx hb dX4_lightOfAll_0 (by decide) ?_
  refine lv_istore_n (lv' := [(1, .int 0), (0, .ref (ad 0))]) hx hb dX4_lightOfAll_1 rfl hl (by decide) rfl (fun ls hl => ?_)
  refine lv_iconst (v := 0) hx hb dX4_lightOfAll_2 (by decide) ?_
  refine lv_istore_n (lv' := [(2, .int 0), (1, .int 0), (0, .ref (ad 0))]) hx hb dX4_lightOfAll_3 rfl hl (by decide) rfl (fun ls hl => ?_)
  obtain ⟨y5, hL4, hf⟩ := zq_b1_s hf
  refine w_X4_lightOfAll_L4 C0 (fun H locs ls hP hD hS hl => ?_) 100 0 0 hL4 _ _ _ hP hD hS (lv_sub hl [2, 1, 0] rfl)
  refine lv_iload_n hx hb dX4_lightOfAll_26 rfl (lv_at hl 0 rfl) ?_
  obtain rfl := Option.some.inj hf
  exact hret _ _ _ _ rfl dX4_lightOfAll_27 hP hD hS

def f_X4_slicesOf (g : zS) (x1 : Int32) : Option (Int32) :=
  zq_dv (g 3 0) (
  some ((((1 <<< (x1 &&& 31)) + (g 3 0)) - 1) / (g 3 0)))
set_option maxHeartbeats 4000000 in
set_option maxRecDepth 100000 in
theorem c_X4_slicesOf {l : Launch} {D : va_G} {ad : Nat → Nat} {cy : Nat → ClassId} {g : zS} {u : zJ} {x1 : Int32} {r0 : Int32} (hf : f_X4_slicesOf g x1 = some r0) : zMI l yX4_slicesOf (zW yX4_slicesOf cX4_slicesOf 2 (some .int)) { frames := 0, cells := 0, slots := 0, locals := 0 } D cy [.ref (ad 0), .int x1] (wdM ad cy g u) r0 (wdM ad cy g u) := by
  unfold f_X4_slicesOf at hf
  refine zEI (ty := .int) (by decide) (Nat.le_of_ble_eq_true rfl) ?_
  intro p e s9 m9 below meth c A Q C0 hret ls hl hP hD
  have hl : lv_has ls 2 [(0, .ref (ad 0)), (1, .int x1)] := hl
  have hS : va_S A s9.heap s9.heap [] := va_S.rf
  obtain ⟨hx, hb, hml, hown, hts⟩ := id C0.1
  refine lv_iconst (v := 1) hx hb dX4_slicesOf_0 (by decide) ?_
  refine lv_iload_n hx hb dX4_slicesOf_1 rfl (lv_at hl 1 rfl) ?_
  refine lv_ishl hx hb dX4_slicesOf_2 ?_
  refine lv_aload_n hx hb dX4_slicesOf_3 rfl (lv_at hl 0 rfl) ?_
  refine gf_X4_144 C0 hP 0 wdM_0 rfl dX4_slicesOf_4 ?_
  refine lv_iadd hx hb dX4_slicesOf_7 ?_
  refine lv_iconst (v := 1) hx hb dX4_slicesOf_8 (by decide) ?_
  refine lv_isub hx hb dX4_slicesOf_9 ?_
  refine lv_aload_n hx hb dX4_slicesOf_10 rfl (lv_at hl 0 rfl) ?_
  refine gf_X4_144 C0 hP 0 wdM_0 rfl dX4_slicesOf_11 ?_
  obtain ⟨h1, hf⟩ := zq_dv_s hf
  refine lv_idiv hx hb dX4_slicesOf_14 h1 ?_
  obtain rfl := Option.some.inj hf
  exact hret _ _ _ _ rfl dX4_slicesOf_15 hP hD hS

def f_X4_frames_L31 (x2 : Int32) (x3 : Int32) (x4 : Int32) : Nat → Int32 → Int32 → zS → Option (Int32 × zS)
  | 0, _, _, _ => none
  | q9 + 1, x1, x5, g =>
  if (g 3 0) ≤ x5 then (
  some (x1, g)) else (
  if x4 ≤ x5 then (
  some (x1, g)) else (
  zq_in 15 x1 (zq_lt (va_up g 17 (upd (g 17) (Int32.toNatClampNeg x1) x3)) (fun g6 =>
  zq_in 15 x1 (zq_lt (va_up g6 18 (upd (g6 18) (Int32.toNatClampNeg x1) x2)) (fun g8 =>
  f_X4_frames_L31 x2 x3 x4 q9 (x1 + 1) (x5 + 1) g8))))))
def f_X4_frames_L12 (x2 : Int32) : Nat → Int32 → Int32 → zS → Option (Int32 × zS)
  | 0, _, _, _ => none
  | q9 + 1, x1, x3, g =>
  if x3 < 0 then (
  some (x1, g)) else (
  zq_b2 (f_X4_frames_L31 x2 x3 ((1 <<< (x3 &&& 31)) - (x2 * (g 3 0))) 100 x1 0 g) (fun y10 g11 =>
  f_X4_frames_L12 x2 q9 y10 (x3 + (-1)) g11))
def f_X4_frames_L4  : Nat → Int32 → Int32 → zS → Option (zS)
  | 0, _, _, _ => none
  | q9 + 1, x1, x2, g =>
  if 8 ≤ x2 then (
  some g) else (
  zq_b2 (f_X4_frames_L12 x2 100 x1 3 g) (fun y13 g14 =>
  f_X4_frames_L4 q9 y13 (x2 + 1) g14))
def f_X4_frames (g : zS)  : Option (zS) :=
  zq_b1 (f_X4_frames_L4 100 0 0 g) (fun g16 =>
  some g16)
set_option maxHeartbeats 4000000 in
set_option maxRecDepth 100000 in
theorem w_X4_frames_L31 {l : Launch} {p : Program} {e : Env} {s9 : State} {m9 : MethodId} {ag : Array Value} {below : List Frame} {meth : Method} {c : Code} {A : Nat → Prop} {Q : State → Prop} {D : va_G} {ad : Nat → Nat} {cy : Nat → ClassId} {u : zJ} {x2 : Int32} {x3 : Int32} {x4 : Int32} (C0 : zCx p s9 m9 ag c cX4_frames 6 RX4 D cy A)  {o1 : Int32} {go : zS} (e0 : ∀ (H : Heap) (locs : List Loc) (ls : Array Slot), va_P D vwCl (wdM ad cy go u) H → va_D A (wdM ad cy go u) → va_S A s9.heap H locs → lv_has ls 6 [(0, .ref (ad 0)), (1, .int o1), (2, .int x2), (3, .int x3)] → W p l e { frames := 0, cells := 0, slots := 0, locals := 0 } s9 m9 ag below meth c H locs 0 0 Q (F0 m9 70 ls [])) : ∀ (q9 : Nat) (x1 : Int32) (x5 : Int32) (g : zS), f_X4_frames_L31 x2 x3 x4 q9 x1 x5 g = some (o1, go) → ∀ (H : Heap) (locs : List Loc) (ls : Array Slot), va_P D vwCl (wdM ad cy g u) H → va_D A (wdM ad cy g u) → va_S A s9.heap H locs → lv_has ls 6 [(0, .ref (ad 0)), (1, .int x1), (2, .int x2), (3, .int x3), (4, .int x4), (5, .int x5)] → W p l e { frames := 0, cells := 0, slots := 0, locals := 0 } s9 m9 ag below meth c H locs 0 0 Q (F0 m9 31 ls []) := by
  obtain ⟨hx, hb, hml, hown, hts⟩ := id C0.1
  intro q9
  induction q9 with
  | zero =>
    intro x1 x5 g hf
    rw [f_X4_frames_L31] at hf
    cases hf
  | succ q9 ih =>
    intro x1 x5 g hf H locs ls hP hD hS hl
    rw [f_X4_frames_L31] at hf
    refine lv_iload hx hb dX4_frames_31 (lv_at hl 5 rfl) ?_
    refine lv_aload_n hx hb dX4_frames_33 rfl (lv_at hl 0 rfl) ?_
    refine gf_X4_144 C0 hP 0 wdM_0 rfl dX4_frames_34 ?_
    refine lv_icmp_ge (tgt := 70) hx hb dX4_frames_37 (by decide) (fun c3 => ?_) (fun c3 => ?_)
    · have hf := it_t c3 hf
      obtain ⟨rfl, rfl⟩ := zq_j2 hf
      exact e0 _ _ _ hP hD hS (lv_sub hl [0, 1, 2, 3] rfl)
    · have hf := it_f c3 hf
      refine lv_iload hx hb dX4_frames_40 (lv_at hl 5 rfl) ?_
      refine lv_iload hx hb dX4_frames_42 (lv_at hl 4 rfl) ?_
      refine lv_icmp_ge (tgt := 70) hx hb dX4_frames_44 (by decide) (fun c4 => ?_) (fun c4 => ?_)
      · have hf := it_t c4 hf
        obtain ⟨rfl, rfl⟩ := zq_j2 hf
        exact e0 _ _ _ hP hD hS (lv_sub hl [0, 1, 2, 3] rfl)
      · have hf := it_f c4 hf
        refine lv_aload_n hx hb dX4_frames_47 rfl (lv_at hl 0 rfl) ?_
        refine gf_X4_37 C0 hP 0 wdM_0 rfl dX4_frames_48 ?_
        refine lv_iload_n hx hb dX4_frames_51 rfl (lv_at hl 1 rfl) ?_
        refine lv_iload_n hx hb dX4_frames_52 rfl (lv_at hl 3 rfl) ?_
        obtain ⟨h5, hf⟩ := zq_in_s hf
        obtain ⟨g6, eg6, hf⟩ := zq_lt_s hf
        refine zis (ws' := (wdM ad cy g6 u)) C0 hP hD hS 10 wdM_10 h5 (by rw [eg6]; rfl) dX4_frames_53 (fun H locs hP hD hS => ?_)
        refine lv_aload_n hx hb dX4_frames_54 rfl (lv_at hl 0 rfl) ?_
        refine gf_X4_40 C0 hP 0 wdM_0 rfl dX4_frames_55 ?_
        refine lv_iload_n hx hb dX4_frames_58 rfl (lv_at hl 1 rfl) ?_
        refine lv_iload_n hx hb dX4_frames_59 rfl (lv_at hl 2 rfl) ?_
        obtain ⟨h7, hf⟩ := zq_in_s hf
        obtain ⟨g8, eg8, hf⟩ := zq_lt_s hf
        refine zis (ws' := (wdM ad cy g8 u)) C0 hP hD hS 11 wdM_11 h7 (by rw [eg8]; rfl) dX4_frames_60 (fun H locs hP hD hS => ?_)
        refine lv_iinc (v := (x1 + 1)) (lv' := [(1, .int (x1 + 1)), (0, .ref (ad 0)), (2, .int x2), (3, .int x3), (4, .int x4), (5, .int x5)]) hx hb dX4_frames_61 hl (k := 1) rfl rfl (by decide) rfl (fun ls hl => ?_)
        refine lv_iinc (v := (x5 + 1)) (lv' := [(5, .int (x5 + 1)), (1, .int (x1 + 1)), (0, .ref (ad 0)), (2, .int x2), (3, .int x3), (4, .int x4)]) hx hb dX4_frames_64 hl (k := 5) rfl rfl (by decide) rfl (fun ls hl => ?_)
        refine lv_goto (tgt := 31) hx hb dX4_frames_67 (by decide) ?_
        exact ih (x1 + 1) (x5 + 1) g8 hf _ _ _ hP hD hS (lv_sub hl [2, 1, 3, 4, 5, 0] rfl)
set_option maxHeartbeats 4000000 in
set_option maxRecDepth 100000 in
theorem w_X4_frames_L12 {l : Launch} {p : Program} {e : Env} {s9 : State} {m9 : MethodId} {ag : Array Value} {below : List Frame} {meth : Method} {c : Code} {A : Nat → Prop} {Q : State → Prop} {D : va_G} {ad : Nat → Nat} {cy : Nat → ClassId} {u : zJ} {x2 : Int32} (C0 : zCx p s9 m9 ag c cX4_frames 6 RX4 D cy A)  {o1 : Int32} {go : zS} (e0 : ∀ (H : Heap) (locs : List Loc) (ls : Array Slot), va_P D vwCl (wdM ad cy go u) H → va_D A (wdM ad cy go u) → va_S A s9.heap H locs → lv_has ls 6 [(0, .ref (ad 0)), (1, .int o1), (2, .int x2)] → W p l e { frames := 0, cells := 0, slots := 0, locals := 0 } s9 m9 ag below meth c H locs 0 0 Q (F0 m9 76 ls [])) : ∀ (q9 : Nat) (x1 : Int32) (x3 : Int32) (g : zS), f_X4_frames_L12 x2 q9 x1 x3 g = some (o1, go) → ∀ (H : Heap) (locs : List Loc) (ls : Array Slot), va_P D vwCl (wdM ad cy g u) H → va_D A (wdM ad cy g u) → va_S A s9.heap H locs → lv_has ls 6 [(0, .ref (ad 0)), (1, .int x1), (2, .int x2), (3, .int x3)] → W p l e { frames := 0, cells := 0, slots := 0, locals := 0 } s9 m9 ag below meth c H locs 0 0 Q (F0 m9 12 ls []) := by
  obtain ⟨hx, hb, hml, hown, hts⟩ := id C0.1
  intro q9
  induction q9 with
  | zero =>
    intro x1 x3 g hf
    rw [f_X4_frames_L12] at hf
    cases hf
  | succ q9 ih =>
    intro x1 x3 g hf H locs ls hP hD hS hl
    rw [f_X4_frames_L12] at hf
    refine lv_iload_n hx hb dX4_frames_12 rfl (lv_at hl 3 rfl) ?_
    refine lv_if_lt (tgt := 76) hx hb dX4_frames_13 (by decide) (fun c2 => ?_) (fun c2 => ?_)
    · have hf := it_t c2 hf
      obtain ⟨rfl, rfl⟩ := zq_j2 hf
      exact e0 _ _ _ hP hD hS (lv_sub hl [0, 1, 2] rfl)
    · have hf := it_f c2 hf
      refine lv_iconst (v := 1) hx hb dX4_frames_16 (by decide) ?_
      refine lv_iload_n hx hb dX4_frames_17 rfl (lv_at hl 3 rfl) ?_
      refine lv_ishl hx hb dX4_frames_18 ?_
      refine lv_iload_n hx hb dX4_frames_19 rfl (lv_at hl 2 rfl) ?_
      refine lv_aload_n hx hb dX4_frames_20 rfl (lv_at hl 0 rfl) ?_
      refine gf_X4_144 C0 hP 0 wdM_0 rfl dX4_frames_21 ?_
      refine lv_imul hx hb dX4_frames_24 ?_
      refine lv_isub hx hb dX4_frames_25 ?_
      refine lv_istore (lv' := [(4, .int ((1 <<< (x3 &&& 31)) - (x2 * (g 3 0)))), (0, .ref (ad 0)), (1, .int x1), (2, .int x2), (3, .int x3)]) hx hb dX4_frames_26 hl (by decide) rfl (fun ls hl => ?_)
      refine lv_iconst (v := 0) hx hb dX4_frames_28 (by decide) ?_
      refine lv_istore (lv' := [(5, .int 0), (4, .int ((1 <<< (x3 &&& 31)) - (x2 * (g 3 0)))), (0, .ref (ad 0)), (1, .int x1), (2, .int x2), (3, .int x3)]) hx hb dX4_frames_29 hl (by decide) rfl (fun ls hl => ?_)
      obtain ⟨y10, g11, hL9, hf⟩ := zq_b2_s hf
      refine w_X4_frames_L31 C0 (fun H locs ls hP hD hS hl => ?_) 100 x1 0 g hL9 _ _ _ hP hD hS (lv_sub hl [2, 3, 4, 5, 1, 0] rfl)
      refine lv_iinc (v := (x3 + (-1))) (lv' := [(3, .int (x3 + (-1))), (0, .ref (ad 0)), (1, .int y10), (2, .int x2)]) hx hb dX4_frames_70 hl (k := 3) rfl rfl (by decide) rfl (fun ls hl => ?_)
      refine lv_goto (tgt := 12) hx hb dX4_frames_73 (by decide) ?_
      exact ih y10 (x3 + (-1)) g11 hf _ _ _ hP hD hS (lv_sub hl [1, 2, 3, 0] rfl)
set_option maxHeartbeats 4000000 in
set_option maxRecDepth 100000 in
theorem w_X4_frames_L4 {l : Launch} {p : Program} {e : Env} {s9 : State} {m9 : MethodId} {ag : Array Value} {below : List Frame} {meth : Method} {c : Code} {A : Nat → Prop} {Q : State → Prop} {D : va_G} {ad : Nat → Nat} {cy : Nat → ClassId} {u : zJ} (C0 : zCx p s9 m9 ag c cX4_frames 6 RX4 D cy A)  {go : zS} (e0 : ∀ (H : Heap) (locs : List Loc) (ls : Array Slot), va_P D vwCl (wdM ad cy go u) H → va_D A (wdM ad cy go u) → va_S A s9.heap H locs → lv_has ls 6 [] → W p l e { frames := 0, cells := 0, slots := 0, locals := 0 } s9 m9 ag below meth c H locs 0 0 Q (F0 m9 82 ls [])) : ∀ (q9 : Nat) (x1 : Int32) (x2 : Int32) (g : zS), f_X4_frames_L4 q9 x1 x2 g = some go → ∀ (H : Heap) (locs : List Loc) (ls : Array Slot), va_P D vwCl (wdM ad cy g u) H → va_D A (wdM ad cy g u) → va_S A s9.heap H locs → lv_has ls 6 [(0, .ref (ad 0)), (1, .int x1), (2, .int x2)] → W p l e { frames := 0, cells := 0, slots := 0, locals := 0 } s9 m9 ag below meth c H locs 0 0 Q (F0 m9 4 ls []) := by
  obtain ⟨hx, hb, hml, hown, hts⟩ := id C0.1
  intro q9
  induction q9 with
  | zero =>
    intro x1 x2 g hf
    rw [f_X4_frames_L4] at hf
    cases hf
  | succ q9 ih =>
    intro x1 x2 g hf H locs ls hP hD hS hl
    rw [f_X4_frames_L4] at hf
    refine lv_iload_n hx hb dX4_frames_4 rfl (lv_at hl 2 rfl) ?_
    refine lv_bipush (v := 8) hx hb dX4_frames_5 (by decide) ?_
    refine lv_icmp_ge (tgt := 82) hx hb dX4_frames_7 (by decide) (fun c1 => ?_) (fun c1 => ?_)
    · have hf := it_t c1 hf
      obtain rfl := Option.some.inj hf
      exact e0 _ _ _ hP hD hS (lv_sub hl [] rfl)
    · have hf := it_f c1 hf
      refine lv_iconst (v := 3) hx hb dX4_frames_10 (by decide) ?_
      refine lv_istore_n (lv' := [(3, .int 3), (0, .ref (ad 0)), (1, .int x1), (2, .int x2)]) hx hb dX4_frames_11 rfl hl (by decide) rfl (fun ls hl => ?_)
      obtain ⟨y13, g14, hL12, hf⟩ := zq_b2_s hf
      refine w_X4_frames_L12 C0 (fun H locs ls hP hD hS hl => ?_) 100 x1 3 g hL12 _ _ _ hP hD hS (lv_sub hl [1, 2, 3, 0] rfl)
      refine lv_iinc (v := (x2 + 1)) (lv' := [(2, .int (x2 + 1)), (0, .ref (ad 0)), (1, .int y13)]) hx hb dX4_frames_76 hl (k := 2) rfl rfl (by decide) rfl (fun ls hl => ?_)
      refine lv_goto (tgt := 4) hx hb dX4_frames_79 (by decide) ?_
      exact ih y13 (x2 + 1) g14 hf _ _ _ hP hD hS (lv_sub hl [1, 2, 0] rfl)
set_option maxHeartbeats 4000000 in
set_option maxRecDepth 100000 in
theorem c_X4_frames {l : Launch} {D : va_G} {ad : Nat → Nat} {cy : Nat → ClassId} {g : zS} {u : zJ}  {g' : zS} (hf : f_X4_frames g = some g') : zMV l yX4_frames (zW yX4_frames cX4_frames 6 none) { frames := 0, cells := 0, slots := 0, locals := 0 } D cy [.ref (ad 0)] (wdM ad cy g u) (wdM ad cy g' u) := by
  unfold f_X4_frames at hf
  refine zEV (by decide) (Nat.le_of_ble_eq_true rfl) ?_
  intro p e s9 m9 below meth c A Q C0 hret ls hl hP hD
  have hl : lv_has ls 6 [(0, .ref (ad 0))] := hl
  have hS : va_S A s9.heap s9.heap [] := va_S.rf
  obtain ⟨hx, hb, hml, hown, hts⟩ := id C0.1
  refine lv_iconst (v := 0) hx hb dX4_frames_0 (by decide) ?_
  refine lv_istore_n (lv' := [(1, .int 0), (0, .ref (ad 0))]) hx hb dX4_frames_1 rfl hl (by decide) rfl (fun ls hl => ?_)
  refine lv_iconst (v := 0) hx hb dX4_frames_2 (by decide) ?_
  refine lv_istore_n (lv' := [(2, .int 0), (1, .int 0), (0, .ref (ad 0))]) hx hb dX4_frames_3 rfl hl (by decide) rfl (fun ls hl => ?_)
  obtain ⟨g16, hL15, hf⟩ := zq_b1_s hf
  refine w_X4_frames_L4 C0 (fun H locs ls hP hD hS hl => ?_) 100 0 0 g hL15 _ _ _ hP hD hS (lv_sub hl [2, 1, 0] rfl)
  obtain rfl := Option.some.inj hf
  exact hret _ _ _ _ dX4_frames_82 hP hD hS

def f_X4_litBy_L4 (g : zS) (x1 : Int32) : Nat → Int32 → Int32 → Option (Int32)
  | 0, _, _ => none
  | q9 + 1, x2, x3 =>
  if 15 ≤ x3 then (
  some x2) else (
  zq_rd (g 17) 15 x3 (fun v2 =>
  f_X4_litBy_L4 g x1 q9 (x2 ||| (((x1 >>> (v2 &&& 31)) &&& 1) <<< (x3 &&& 31))) (x3 + 1)))
def f_X4_litBy (g : zS) (x1 : Int32) : Option (Int32) :=
  zq_b1 (f_X4_litBy_L4 g x1 100 0 0) (fun y5 =>
  some y5)
set_option maxHeartbeats 4000000 in
set_option maxRecDepth 100000 in
theorem w_X4_litBy_L4 {l : Launch} {p : Program} {e : Env} {s9 : State} {m9 : MethodId} {ag : Array Value} {below : List Frame} {meth : Method} {c : Code} {A : Nat → Prop} {Q : State → Prop} {D : va_G} {ad : Nat → Nat} {cy : Nat → ClassId} {g : zS} {u : zJ} {x1 : Int32} (C0 : zCx p s9 m9 ag c cX4_litBy 4 RX4 D cy A)  {o2 : Int32} (e0 : ∀ (H : Heap) (locs : List Loc) (ls : Array Slot), va_P D vwCl (wdM ad cy g u) H → va_D A (wdM ad cy g u) → va_S A s9.heap H locs → lv_has ls 4 [(2, .int o2)] → W p l e { frames := 0, cells := 0, slots := 0, locals := 0 } s9 m9 ag below meth c H locs 0 0 Q (F0 m9 31 ls [])) : ∀ (q9 : Nat) (x2 : Int32) (x3 : Int32), f_X4_litBy_L4 g x1 q9 x2 x3 = some o2 → ∀ (H : Heap) (locs : List Loc) (ls : Array Slot), va_P D vwCl (wdM ad cy g u) H → va_D A (wdM ad cy g u) → va_S A s9.heap H locs → lv_has ls 4 [(0, .ref (ad 0)), (1, .int x1), (2, .int x2), (3, .int x3)] → W p l e { frames := 0, cells := 0, slots := 0, locals := 0 } s9 m9 ag below meth c H locs 0 0 Q (F0 m9 4 ls []) := by
  obtain ⟨hx, hb, hml, hown, hts⟩ := id C0.1
  intro q9
  induction q9 with
  | zero =>
    intro x2 x3 hf
    rw [f_X4_litBy_L4] at hf
    cases hf
  | succ q9 ih =>
    intro x2 x3 hf H locs ls hP hD hS hl
    rw [f_X4_litBy_L4] at hf
    refine lv_iload_n hx hb dX4_litBy_4 rfl (lv_at hl 3 rfl) ?_
    refine lv_bipush (v := 15) hx hb dX4_litBy_5 (by decide) ?_
    refine lv_icmp_ge (tgt := 31) hx hb dX4_litBy_7 (by decide) (fun c1 => ?_) (fun c1 => ?_)
    · have hf := it_t c1 hf
      obtain rfl := Option.some.inj hf
      exact e0 _ _ _ hP hD hS (lv_sub hl [2] rfl)
    · have hf := it_f c1 hf
      refine lv_iload_n hx hb dX4_litBy_10 rfl (lv_at hl 2 rfl) ?_
      refine lv_iload_n hx hb dX4_litBy_11 rfl (lv_at hl 1 rfl) ?_
      refine lv_aload_n hx hb dX4_litBy_12 rfl (lv_at hl 0 rfl) ?_
      refine gf_X4_37 C0 hP 0 wdM_0 rfl dX4_litBy_13 ?_
      refine lv_iload_n hx hb dX4_litBy_16 rfl (lv_at hl 3 rfl) ?_
      obtain ⟨v2, ev2, h3, hf⟩ := zq_rd_s hf
      refine zia C0 hP 10 wdM_10 ev2 h3 dX4_litBy_17 ?_
      refine lv_ishr hx hb dX4_litBy_18 ?_
      refine lv_iconst (v := 1) hx hb dX4_litBy_19 (by decide) ?_
      refine lv_iand hx hb dX4_litBy_20 ?_
      refine lv_iload_n hx hb dX4_litBy_21 rfl (lv_at hl 3 rfl) ?_
      refine lv_ishl hx hb dX4_litBy_22 ?_
      refine lv_ior hx hb dX4_litBy_23 ?_
      refine lv_istore_n (lv' := [(2, .int (x2 ||| (((x1 >>> (v2 &&& 31)) &&& 1) <<< (x3 &&& 31)))), (0, .ref (ad 0)), (1, .int x1), (3, .int x3)]) hx hb dX4_litBy_24 rfl hl (by decide) rfl (fun ls hl => ?_)
      refine lv_iinc (v := (x3 + 1)) (lv' := [(3, .int (x3 + 1)), (2, .int (x2 ||| (((x1 >>> (v2 &&& 31)) &&& 1) <<< (x3 &&& 31)))), (0, .ref (ad 0)), (1, .int x1)]) hx hb dX4_litBy_25 hl (k := 3) rfl rfl (by decide) rfl (fun ls hl => ?_)
      refine lv_goto (tgt := 4) hx hb dX4_litBy_28 (by decide) ?_
      exact ih (x2 ||| (((x1 >>> (v2 &&& 31)) &&& 1) <<< (x3 &&& 31))) (x3 + 1) hf _ _ _ hP hD hS (lv_sub hl [2, 3, 1, 0] rfl)
set_option maxHeartbeats 4000000 in
set_option maxRecDepth 100000 in
theorem c_X4_litBy {l : Launch} {D : va_G} {ad : Nat → Nat} {cy : Nat → ClassId} {g : zS} {u : zJ} {x1 : Int32} {r0 : Int32} (hf : f_X4_litBy g x1 = some r0) : zMI l yX4_litBy (zW yX4_litBy cX4_litBy 4 (some .int)) { frames := 0, cells := 0, slots := 0, locals := 0 } D cy [.ref (ad 0), .int x1] (wdM ad cy g u) r0 (wdM ad cy g u) := by
  unfold f_X4_litBy at hf
  refine zEI (ty := .int) (by decide) (Nat.le_of_ble_eq_true rfl) ?_
  intro p e s9 m9 below meth c A Q C0 hret ls hl hP hD
  have hl : lv_has ls 4 [(0, .ref (ad 0)), (1, .int x1)] := hl
  have hS : va_S A s9.heap s9.heap [] := va_S.rf
  obtain ⟨hx, hb, hml, hown, hts⟩ := id C0.1
  refine lv_iconst (v := 0) hx hb dX4_litBy_0 (by decide) ?_
  refine lv_istore_n (lv' := [(2, .int 0), (0, .ref (ad 0)), (1, .int x1)]) hx hb dX4_litBy_1 rfl hl (by decide) rfl (fun ls hl => ?_)
  refine lv_iconst (v := 0) hx hb dX4_litBy_2 (by decide) ?_
  refine lv_istore_n (lv' := [(3, .int 0), (2, .int 0), (0, .ref (ad 0)), (1, .int x1)]) hx hb dX4_litBy_3 rfl hl (by decide) rfl (fun ls hl => ?_)
  obtain ⟨y5, hL4, hf⟩ := zq_b1_s hf
  refine w_X4_litBy_L4 C0 (fun H locs ls hP hD hS hl => ?_) 100 0 0 hL4 _ _ _ hP hD hS (lv_sub hl [2, 3, 1, 0] rfl)
  refine lv_iload_n hx hb dX4_litBy_31 rfl (lv_at hl 0 rfl) ?_
  obtain rfl := Option.some.inj hf
  exact hret _ _ _ _ rfl dX4_litBy_32 hP hD hS

def f_X4_litOf (g : zS) (x1 : Int32) : Option (Int32) :=
  zq_b1 (f_X4_light g x1) (fun r2 =>
  zq_b1 (f_X4_litBy g r2) (fun r4 =>
  some r4))
set_option maxHeartbeats 4000000 in
set_option maxRecDepth 100000 in
theorem c_X4_litOf {l : Launch} {D : va_G} {ad : Nat → Nat} {cy : Nat → ClassId} {g : zS} {u : zJ} {x1 : Int32} {r0 : Int32} (hf : f_X4_litOf g x1 = some r0) : zMI l yX4_litOf (zW yX4_litOf cX4_litOf 2 (some .int)) { frames := 2, cells := 0, slots := 0, locals := 43 } D cy [.ref (ad 0), .int x1] (wdM ad cy g u) r0 (wdM ad cy g u) := by
  unfold f_X4_litOf at hf
  refine zEI (ty := .int) (by decide) (Nat.le_of_ble_eq_true rfl) ?_
  intro p e s9 m9 below meth c A Q C0 hret ls hl hP hD
  have hl : lv_has ls 2 [(0, .ref (ad 0)), (1, .int x1)] := hl
  have hS : va_S A s9.heap s9.heap [] := va_S.rf
  obtain ⟨hx, hb, hml, hown, hts⟩ := id C0.1
  refine lv_aload_n hx hb dX4_litOf_0 rfl (lv_at hl 0 rfl) ?_
  refine lv_aload_n hx hb dX4_litOf_1 rfl (lv_at hl 0 rfl) ?_
  refine lv_iload_n hx hb dX4_litOf_2 rfl (lv_at hl 1 rfl) ?_
  obtain ⟨r2, hc1, hf⟩ := zq_b1_s hf
  refine zVI (ws' := (wdM ad cy g u)) (rest := [.ref (ad 0)]) C0 (fun _ h => h) zF.id (c_X4_light hc1) hP hD hS my_X4_light kl_X4_153 ⟨rfl, rfl⟩ ⟨Nat.le_of_ble_eq_true rfl, Nat.le_of_ble_eq_true rfl⟩ (q0 := 0) (ci := 4) rfl wdM_0 rfl hl.1 rfl (Nat.le_of_ble_eq_true rfl) dX4_litOf_3 ⟨Nat.zero_le _, Nat.zero_le _⟩ (fun H locs hP hD hS => ?_)
  obtain ⟨r4, hc3, hf⟩ := zq_b1_s hf
  refine zVI (ws' := (wdM ad cy g u)) (rest := []) C0 (fun _ h => h) zF.id (c_X4_litBy hc3) hP hD hS my_X4_litBy kl_X4_156 ⟨rfl, rfl⟩ ⟨Nat.le_of_ble_eq_true rfl, Nat.le_of_ble_eq_true rfl⟩ (q0 := 0) (ci := 4) rfl wdM_0 rfl hl.1 rfl (Nat.le_of_ble_eq_true rfl) dX4_litOf_6 ⟨Nat.zero_le _, Nat.zero_le _⟩ (fun H locs hP hD hS => ?_)
  obtain rfl := Option.some.inj hf
  exact hret _ _ _ _ rfl dX4_litOf_9 hP hD hS

def f_X4_darkOf_L14 (x2 : Int32) : Nat → Int32 → Int32 → Int32 → Option (Int32)
  | 0, _, _, _ => none
  | q9 + 1, x3, x4, x5 =>
  if 30 ≤ x5 then (
  some x3) else (
  if ((x2 >>> ((x5 - x5 / 15 * 15) &&& 31)) &&& 1) = 1 then (
  if 0 ≤ x3 then (
  f_X4_darkOf_L14 x2 q9 x3 0 (x5 + 1)) else (
  f_X4_darkOf_L14 x2 q9 0 0 (x5 + 1))) else (
  if (x4 + 1) ≤ x3 then (
  f_X4_darkOf_L14 x2 q9 x3 (x4 + 1) (x5 + 1)) else (
  f_X4_darkOf_L14 x2 q9 (x4 + 1) (x4 + 1) (x5 + 1))))
def f_X4_darkOf (g : zS) (x1 : Int32) : Option (Int32) :=
  zq_b1 (f_X4_litOf g x1) (fun r2 =>
  zq_b1 (f_X4_darkOf_L14 r2 100 0 0 0) (fun y8 =>
  if y8 ≤ 15 then (
  some y8) else (
  some 15)))
set_option maxHeartbeats 4000000 in
set_option maxRecDepth 100000 in
theorem w_X4_darkOf_L14 {l : Launch} {p : Program} {e : Env} {s9 : State} {m9 : MethodId} {ag : Array Value} {below : List Frame} {meth : Method} {c : Code} {A : Nat → Prop} {Q : State → Prop} {D : va_G} {ad : Nat → Nat} {cy : Nat → ClassId} {g : zS} {u : zJ} {x2 : Int32} (C0 : zCx p s9 m9 ag c cX4_darkOf 6 RX4 D cy A)  {o3 : Int32} (e0 : ∀ (H : Heap) (locs : List Loc) (ls : Array Slot), va_P D vwCl (wdM ad cy g u) H → va_D A (wdM ad cy g u) → va_S A s9.heap H locs → lv_has ls 6 [(3, .int o3)] → W p l e { frames := 3, cells := 0, slots := 0, locals := 64 } s9 m9 ag below meth c H locs 0 0 Q (F0 m9 63 ls [])) : ∀ (q9 : Nat) (x3 : Int32) (x4 : Int32) (x5 : Int32), f_X4_darkOf_L14 x2 q9 x3 x4 x5 = some o3 → ∀ (H : Heap) (locs : List Loc) (ls : Array Slot), va_P D vwCl (wdM ad cy g u) H → va_D A (wdM ad cy g u) → va_S A s9.heap H locs → lv_has ls 6 [(2, .int x2), (3, .int x3), (4, .int x4), (5, .int x5)] → W p l e { frames := 3, cells := 0, slots := 0, locals := 64 } s9 m9 ag below meth c H locs 0 0 Q (F0 m9 14 ls []) := by
  obtain ⟨hx, hb, hml, hown, hts⟩ := id C0.1
  intro q9
  induction q9 with
  | zero =>
    intro x3 x4 x5 hf
    rw [f_X4_darkOf_L14] at hf
    cases hf
  | succ q9 ih =>
    intro x3 x4 x5 hf H locs ls hP hD hS hl
    rw [f_X4_darkOf_L14] at hf
    refine lv_iload hx hb dX4_darkOf_14 (lv_at hl 3 rfl) ?_
    refine lv_bipush (v := 30) hx hb dX4_darkOf_16 (by decide) ?_
    refine lv_icmp_ge (tgt := 63) hx hb dX4_darkOf_18 (by decide) (fun c3 => ?_) (fun c3 => ?_)
    · have hf := it_t c3 hf
      obtain rfl := Option.some.inj hf
      exact e0 _ _ _ hP hD hS (lv_sub hl [1] rfl)
    · have hf := it_f c3 hf
      refine lv_iload_n hx hb dX4_darkOf_21 rfl (lv_at hl 0 rfl) ?_
      refine lv_iload hx hb dX4_darkOf_22 (lv_at hl 3 rfl) ?_
      refine lv_bipush (v := 15) hx hb dX4_darkOf_24 (by decide) ?_
      refine lv_irem hx hb dX4_darkOf_26 (by decide) ?_
      refine lv_ishr hx hb dX4_darkOf_27 ?_
      refine lv_iconst (v := 1) hx hb dX4_darkOf_28 (by decide) ?_
      refine lv_iand hx hb dX4_darkOf_29 ?_
      refine lv_iconst (v := 1) hx hb dX4_darkOf_30 (by decide) ?_
      refine lv_icmp_ne (tgt := 38) hx hb dX4_darkOf_31 (by decide) (fun c4 => ?_) (fun c4 => ?_)
      · have hf := it_f c4 hf
        refine lv_iload hx hb dX4_darkOf_38 (lv_at hl 2 rfl) ?_
        refine lv_iconst (v := 1) hx hb dX4_darkOf_40 (by decide) ?_
        refine lv_iadd hx hb dX4_darkOf_41 ?_
        refine lv_istore (lv' := [(4, .int (x4 + 1)), (2, .int x2), (3, .int x3), (5, .int x5)]) hx hb dX4_darkOf_42 hl (by decide) rfl (fun ls hl => ?_)
        refine lv_iload hx hb dX4_darkOf_44 (lv_at hl 0 rfl) ?_
        refine lv_iload_n hx hb dX4_darkOf_46 rfl (lv_at hl 2 rfl) ?_
        refine lv_icmp_le (tgt := 55) hx hb dX4_darkOf_47 (by decide) (fun c5 => ?_) (fun c5 => ?_)
        · have hf := it_t c5 hf
          refine lv_iload_n hx hb dX4_darkOf_55 rfl (lv_at hl 2 rfl) ?_
          refine lv_istore_n (lv' := [(3, .int x3), (4, .int (x4 + 1)), (2, .int x2), (5, .int x5)]) hx hb dX4_darkOf_56 rfl hl (by decide) rfl (fun ls hl => ?_)
          refine lv_iinc (v := (x5 + 1)) (lv' := [(5, .int (x5 + 1)), (3, .int x3), (4, .int (x4 + 1)), (2, .int x2)]) hx hb dX4_darkOf_57 hl (k := 3) rfl rfl (by decide) rfl (fun ls hl => ?_)
          refine lv_goto (tgt := 14) hx hb dX4_darkOf_60 (by decide) ?_
          exact ih x3 (x4 + 1) (x5 + 1) hf _ _ _ hP hD hS (lv_sub hl [3, 1, 2, 0] rfl)
        · have hf := it_f c5 hf
          refine lv_iload hx hb dX4_darkOf_50 (lv_at hl 0 rfl) ?_
          refine lv_goto (tgt := 56) hx hb dX4_darkOf_52 (by decide) ?_
          refine lv_istore_n (lv' := [(3, .int (x4 + 1)), (4, .int (x4 + 1)), (2, .int x2), (5, .int x5)]) hx hb dX4_darkOf_56 rfl hl (by decide) rfl (fun ls hl => ?_)
          refine lv_iinc (v := (x5 + 1)) (lv' := [(5, .int (x5 + 1)), (3, .int (x4 + 1)), (4, .int (x4 + 1)), (2, .int x2)]) hx hb dX4_darkOf_57 hl (k := 3) rfl rfl (by decide) rfl (fun ls hl => ?_)
          refine lv_goto (tgt := 14) hx hb dX4_darkOf_60 (by decide) ?_
          exact ih (x4 + 1) (x4 + 1) (x5 + 1) hf _ _ _ hP hD hS (lv_sub hl [3, 1, 2, 0] rfl)
      · have hf := it_t c4 hf
        refine lv_iconst (v := 0) hx hb dX4_darkOf_34 (by decide) ?_
        refine lv_goto (tgt := 42) hx hb dX4_darkOf_35 (by decide) ?_
        refine lv_istore (lv' := [(4, .int 0), (2, .int x2), (3, .int x3), (5, .int x5)]) hx hb dX4_darkOf_42 hl (by decide) rfl (fun ls hl => ?_)
        refine lv_iload hx hb dX4_darkOf_44 (lv_at hl 0 rfl) ?_
        refine lv_iload_n hx hb dX4_darkOf_46 rfl (lv_at hl 2 rfl) ?_
        refine lv_icmp_le (tgt := 55) hx hb dX4_darkOf_47 (by decide) (fun c6 => ?_) (fun c6 => ?_)
        · have hf := it_t c6 hf
          refine lv_iload_n hx hb dX4_darkOf_55 rfl (lv_at hl 2 rfl) ?_
          refine lv_istore_n (lv' := [(3, .int x3), (4, .int 0), (2, .int x2), (5, .int x5)]) hx hb dX4_darkOf_56 rfl hl (by decide) rfl (fun ls hl => ?_)
          refine lv_iinc (v := (x5 + 1)) (lv' := [(5, .int (x5 + 1)), (3, .int x3), (4, .int 0), (2, .int x2)]) hx hb dX4_darkOf_57 hl (k := 3) rfl rfl (by decide) rfl (fun ls hl => ?_)
          refine lv_goto (tgt := 14) hx hb dX4_darkOf_60 (by decide) ?_
          exact ih x3 0 (x5 + 1) hf _ _ _ hP hD hS (lv_sub hl [3, 1, 2, 0] rfl)
        · have hf := it_f c6 hf
          refine lv_iload hx hb dX4_darkOf_50 (lv_at hl 0 rfl) ?_
          refine lv_goto (tgt := 56) hx hb dX4_darkOf_52 (by decide) ?_
          refine lv_istore_n (lv' := [(3, .int 0), (4, .int 0), (2, .int x2), (5, .int x5)]) hx hb dX4_darkOf_56 rfl hl (by decide) rfl (fun ls hl => ?_)
          refine lv_iinc (v := (x5 + 1)) (lv' := [(5, .int (x5 + 1)), (3, .int 0), (4, .int 0), (2, .int x2)]) hx hb dX4_darkOf_57 hl (k := 3) rfl rfl (by decide) rfl (fun ls hl => ?_)
          refine lv_goto (tgt := 14) hx hb dX4_darkOf_60 (by decide) ?_
          exact ih 0 0 (x5 + 1) hf _ _ _ hP hD hS (lv_sub hl [3, 1, 2, 0] rfl)
set_option maxHeartbeats 4000000 in
set_option maxRecDepth 100000 in
theorem c_X4_darkOf {l : Launch} {D : va_G} {ad : Nat → Nat} {cy : Nat → ClassId} {g : zS} {u : zJ} {x1 : Int32} {r0 : Int32} (hf : f_X4_darkOf g x1 = some r0) : zMI l yX4_darkOf (zW yX4_darkOf cX4_darkOf 6 (some .int)) { frames := 3, cells := 0, slots := 0, locals := 64 } D cy [.ref (ad 0), .int x1] (wdM ad cy g u) r0 (wdM ad cy g u) := by
  unfold f_X4_darkOf at hf
  refine zEI (ty := .int) (by decide) (Nat.le_of_ble_eq_true rfl) ?_
  intro p e s9 m9 below meth c A Q C0 hret ls hl hP hD
  have hl : lv_has ls 6 [(0, .ref (ad 0)), (1, .int x1)] := hl
  have hS : va_S A s9.heap s9.heap [] := va_S.rf
  obtain ⟨hx, hb, hml, hown, hts⟩ := id C0.1
  refine lv_aload_n hx hb dX4_darkOf_0 rfl (lv_at hl 0 rfl) ?_
  refine lv_iload_n hx hb dX4_darkOf_1 rfl (lv_at hl 1 rfl) ?_
  obtain ⟨r2, hc1, hf⟩ := zq_b1_s hf
  refine zVI (ws' := (wdM ad cy g u)) (rest := []) C0 (fun _ h => h) zF.id (c_X4_litOf hc1) hP hD hS my_X4_litOf kl_X4_159 ⟨rfl, rfl⟩ ⟨Nat.le_of_ble_eq_true rfl, Nat.le_of_ble_eq_true rfl⟩ (q0 := 0) (ci := 4) rfl wdM_0 rfl hl.1 rfl (Nat.le_of_ble_eq_true rfl) dX4_darkOf_2 ⟨Nat.zero_le _, Nat.zero_le _⟩ (fun H locs hP hD hS => ?_)
  refine lv_istore_n (lv' := [(2, .int r2), (0, .ref (ad 0)), (1, .int x1)]) hx hb dX4_darkOf_5 rfl hl (by decide) rfl (fun ls hl => ?_)
  refine lv_iconst (v := 0) hx hb dX4_darkOf_6 (by decide) ?_
  refine lv_istore_n (lv' := [(3, .int 0), (2, .int r2), (0, .ref (ad 0)), (1, .int x1)]) hx hb dX4_darkOf_7 rfl hl (by decide) rfl (fun ls hl => ?_)
  refine lv_iconst (v := 0) hx hb dX4_darkOf_8 (by decide) ?_
  refine lv_istore (lv' := [(4, .int 0), (3, .int 0), (2, .int r2), (0, .ref (ad 0)), (1, .int x1)]) hx hb dX4_darkOf_9 hl (by decide) rfl (fun ls hl => ?_)
  refine lv_iconst (v := 0) hx hb dX4_darkOf_11 (by decide) ?_
  refine lv_istore (lv' := [(5, .int 0), (4, .int 0), (3, .int 0), (2, .int r2), (0, .ref (ad 0)), (1, .int x1)]) hx hb dX4_darkOf_12 hl (by decide) rfl (fun ls hl => ?_)
  obtain ⟨y8, hL7, hf⟩ := zq_b1_s hf
  refine w_X4_darkOf_L14 C0 (fun H locs ls hP hD hS hl => ?_) 100 0 0 0 hL7 _ _ _ hP hD hS (lv_sub hl [3, 2, 1, 0] rfl)
  refine lv_iload_n hx hb dX4_darkOf_63 rfl (lv_at hl 0 rfl) ?_
  refine lv_bipush (v := 15) hx hb dX4_darkOf_64 (by decide) ?_
  refine lv_icmp_le (tgt := 74) hx hb dX4_darkOf_66 (by decide) (fun c9 => ?_) (fun c9 => ?_)
  · have hf := it_t c9 hf
    refine lv_iload_n hx hb dX4_darkOf_74 rfl (lv_at hl 0 rfl) ?_
    obtain rfl := Option.some.inj hf
    exact hret _ _ _ _ rfl dX4_darkOf_75 hP hD hS
  · have hf := it_f c9 hf
    refine lv_bipush (v := 15) hx hb dX4_darkOf_69 (by decide) ?_
    refine lv_goto (tgt := 75) hx hb dX4_darkOf_71 (by decide) ?_
    obtain rfl := Option.some.inj hf
    exact hret _ _ _ _ rfl dX4_darkOf_75 hP hD hS

def f_X4_turnsOf_L11 (x2 : Int32) : Nat → Int32 → Int32 → Option (Int32)
  | 0, _, _ => none
  | q9 + 1, x3, x4 =>
  if 15 ≤ x4 then (
  some x3) else (
  if ((x2 >>> (x4 &&& 31)) &&& 1) = ((x2 >>> (((x4 + 1) - (x4 + 1) / 15 * 15) &&& 31)) &&& 1) then (
  f_X4_turnsOf_L11 x2 q9 (x3 + 0) (x4 + 1)) else (
  f_X4_turnsOf_L11 x2 q9 (x3 + 1) (x4 + 1)))
def f_X4_turnsOf (g : zS) (x1 : Int32) : Option (Int32) :=
  zq_b1 (f_X4_litOf g x1) (fun r2 =>
  zq_b1 (f_X4_turnsOf_L11 r2 100 0 0) (fun y6 =>
  some y6))
set_option maxHeartbeats 4000000 in
set_option maxRecDepth 100000 in
theorem w_X4_turnsOf_L11 {l : Launch} {p : Program} {e : Env} {s9 : State} {m9 : MethodId} {ag : Array Value} {below : List Frame} {meth : Method} {c : Code} {A : Nat → Prop} {Q : State → Prop} {D : va_G} {ad : Nat → Nat} {cy : Nat → ClassId} {g : zS} {u : zJ} {x2 : Int32} (C0 : zCx p s9 m9 ag c cX4_turnsOf 5 RX4 D cy A)  {o3 : Int32} (e0 : ∀ (H : Heap) (locs : List Loc) (ls : Array Slot), va_P D vwCl (wdM ad cy g u) H → va_D A (wdM ad cy g u) → va_S A s9.heap H locs → lv_has ls 5 [(3, .int o3)] → W p l e { frames := 3, cells := 0, slots := 0, locals := 64 } s9 m9 ag below meth c H locs 0 0 Q (F0 m9 52 ls [])) : ∀ (q9 : Nat) (x3 : Int32) (x4 : Int32), f_X4_turnsOf_L11 x2 q9 x3 x4 = some o3 → ∀ (H : Heap) (locs : List Loc) (ls : Array Slot), va_P D vwCl (wdM ad cy g u) H → va_D A (wdM ad cy g u) → va_S A s9.heap H locs → lv_has ls 5 [(2, .int x2), (3, .int x3), (4, .int x4)] → W p l e { frames := 3, cells := 0, slots := 0, locals := 64 } s9 m9 ag below meth c H locs 0 0 Q (F0 m9 11 ls []) := by
  obtain ⟨hx, hb, hml, hown, hts⟩ := id C0.1
  intro q9
  induction q9 with
  | zero =>
    intro x3 x4 hf
    rw [f_X4_turnsOf_L11] at hf
    cases hf
  | succ q9 ih =>
    intro x3 x4 hf H locs ls hP hD hS hl
    rw [f_X4_turnsOf_L11] at hf
    refine lv_iload hx hb dX4_turnsOf_11 (lv_at hl 2 rfl) ?_
    refine lv_bipush (v := 15) hx hb dX4_turnsOf_13 (by decide) ?_
    refine lv_icmp_ge (tgt := 52) hx hb dX4_turnsOf_15 (by decide) (fun c3 => ?_) (fun c3 => ?_)
    · have hf := it_t c3 hf
      obtain rfl := Option.some.inj hf
      exact e0 _ _ _ hP hD hS (lv_sub hl [1] rfl)
    · have hf := it_f c3 hf
      refine lv_iload_n hx hb dX4_turnsOf_18 rfl (lv_at hl 1 rfl) ?_
      refine lv_iload_n hx hb dX4_turnsOf_19 rfl (lv_at hl 0 rfl) ?_
      refine lv_iload hx hb dX4_turnsOf_20 (lv_at hl 2 rfl) ?_
      refine lv_ishr hx hb dX4_turnsOf_22 ?_
      refine lv_iconst (v := 1) hx hb dX4_turnsOf_23 (by decide) ?_
      refine lv_iand hx hb dX4_turnsOf_24 ?_
      refine lv_iload_n hx hb dX4_turnsOf_25 rfl (lv_at hl 0 rfl) ?_
      refine lv_iload hx hb dX4_turnsOf_26 (lv_at hl 2 rfl) ?_
      refine lv_iconst (v := 1) hx hb dX4_turnsOf_28 (by decide) ?_
      refine lv_iadd hx hb dX4_turnsOf_29 ?_
      refine lv_bipush (v := 15) hx hb dX4_turnsOf_30 (by decide) ?_
      refine lv_irem hx hb dX4_turnsOf_32 (by decide) ?_
      refine lv_ishr hx hb dX4_turnsOf_33 ?_
      refine lv_iconst (v := 1) hx hb dX4_turnsOf_34 (by decide) ?_
      refine lv_iand hx hb dX4_turnsOf_35 ?_
      refine lv_icmp_eq (tgt := 43) hx hb dX4_turnsOf_36 (by decide) (fun c4 => ?_) (fun c4 => ?_)
      · have hf := it_t c4 hf
        refine lv_iconst (v := 0) hx hb dX4_turnsOf_43 (by decide) ?_
        refine lv_iadd hx hb dX4_turnsOf_44 ?_
        refine lv_istore_n (lv' := [(3, .int (x3 + 0)), (2, .int x2), (4, .int x4)]) hx hb dX4_turnsOf_45 rfl hl (by decide) rfl (fun ls hl => ?_)
        refine lv_iinc (v := (x4 + 1)) (lv' := [(4, .int (x4 + 1)), (3, .int (x3 + 0)), (2, .int x2)]) hx hb dX4_turnsOf_46 hl (k := 2) rfl rfl (by decide) rfl (fun ls hl => ?_)
        refine lv_goto (tgt := 11) hx hb dX4_turnsOf_49 (by decide) ?_
        exact ih (x3 + 0) (x4 + 1) hf _ _ _ hP hD hS (lv_sub hl [2, 1, 0] rfl)
      · have hf := it_f c4 hf
        refine lv_iconst (v := 1) hx hb dX4_turnsOf_39 (by decide) ?_
        refine lv_goto (tgt := 44) hx hb dX4_turnsOf_40 (by decide) ?_
        refine lv_iadd hx hb dX4_turnsOf_44 ?_
        refine lv_istore_n (lv' := [(3, .int (x3 + 1)), (2, .int x2), (4, .int x4)]) hx hb dX4_turnsOf_45 rfl hl (by decide) rfl (fun ls hl => ?_)
        refine lv_iinc (v := (x4 + 1)) (lv' := [(4, .int (x4 + 1)), (3, .int (x3 + 1)), (2, .int x2)]) hx hb dX4_turnsOf_46 hl (k := 2) rfl rfl (by decide) rfl (fun ls hl => ?_)
        refine lv_goto (tgt := 11) hx hb dX4_turnsOf_49 (by decide) ?_
        exact ih (x3 + 1) (x4 + 1) hf _ _ _ hP hD hS (lv_sub hl [2, 1, 0] rfl)
set_option maxHeartbeats 4000000 in
set_option maxRecDepth 100000 in
theorem c_X4_turnsOf {l : Launch} {D : va_G} {ad : Nat → Nat} {cy : Nat → ClassId} {g : zS} {u : zJ} {x1 : Int32} {r0 : Int32} (hf : f_X4_turnsOf g x1 = some r0) : zMI l yX4_turnsOf (zW yX4_turnsOf cX4_turnsOf 5 (some .int)) { frames := 3, cells := 0, slots := 0, locals := 64 } D cy [.ref (ad 0), .int x1] (wdM ad cy g u) r0 (wdM ad cy g u) := by
  unfold f_X4_turnsOf at hf
  refine zEI (ty := .int) (by decide) (Nat.le_of_ble_eq_true rfl) ?_
  intro p e s9 m9 below meth c A Q C0 hret ls hl hP hD
  have hl : lv_has ls 5 [(0, .ref (ad 0)), (1, .int x1)] := hl
  have hS : va_S A s9.heap s9.heap [] := va_S.rf
  obtain ⟨hx, hb, hml, hown, hts⟩ := id C0.1
  refine lv_aload_n hx hb dX4_turnsOf_0 rfl (lv_at hl 0 rfl) ?_
  refine lv_iload_n hx hb dX4_turnsOf_1 rfl (lv_at hl 1 rfl) ?_
  obtain ⟨r2, hc1, hf⟩ := zq_b1_s hf
  refine zVI (ws' := (wdM ad cy g u)) (rest := []) C0 (fun _ h => h) zF.id (c_X4_litOf hc1) hP hD hS my_X4_litOf kl_X4_159 ⟨rfl, rfl⟩ ⟨Nat.le_of_ble_eq_true rfl, Nat.le_of_ble_eq_true rfl⟩ (q0 := 0) (ci := 4) rfl wdM_0 rfl hl.1 rfl (Nat.le_of_ble_eq_true rfl) dX4_turnsOf_2 ⟨Nat.zero_le _, Nat.zero_le _⟩ (fun H locs hP hD hS => ?_)
  refine lv_istore_n (lv' := [(2, .int r2), (0, .ref (ad 0)), (1, .int x1)]) hx hb dX4_turnsOf_5 rfl hl (by decide) rfl (fun ls hl => ?_)
  refine lv_iconst (v := 0) hx hb dX4_turnsOf_6 (by decide) ?_
  refine lv_istore_n (lv' := [(3, .int 0), (2, .int r2), (0, .ref (ad 0)), (1, .int x1)]) hx hb dX4_turnsOf_7 rfl hl (by decide) rfl (fun ls hl => ?_)
  refine lv_iconst (v := 0) hx hb dX4_turnsOf_8 (by decide) ?_
  refine lv_istore (lv' := [(4, .int 0), (3, .int 0), (2, .int r2), (0, .ref (ad 0)), (1, .int x1)]) hx hb dX4_turnsOf_9 hl (by decide) rfl (fun ls hl => ?_)
  obtain ⟨y6, hL5, hf⟩ := zq_b1_s hf
  refine w_X4_turnsOf_L11 C0 (fun H locs ls hP hD hS hl => ?_) 100 0 0 hL5 _ _ _ hP hD hS (lv_sub hl [2, 1, 0] rfl)
  refine lv_iload_n hx hb dX4_turnsOf_52 rfl (lv_at hl 0 rfl) ?_
  obtain rfl := Option.some.inj hf
  exact hret _ _ _ _ rfl dX4_turnsOf_53 hP hD hS

def f_X4_ghostsOf (g : zS) (x1 : Int32) : Option (Int32) :=
  zq_rd (g 9) 16 x1 (fun v1 =>
  zq_rd (g 5) 4 v1 (fun v3 =>
  if v3 = x1 then (
  some 0) else (
  zq_b1 (f_X4_litOf g (x1 - 1)) (fun r8 =>
  zq_b1 (f_X4_litOf g x1) (fun r10 =>
  some (r8 &&& (32767 - r10)))))))
set_option maxHeartbeats 4000000 in
set_option maxRecDepth 100000 in
theorem c_X4_ghostsOf {l : Launch} {D : va_G} {ad : Nat → Nat} {cy : Nat → ClassId} {g : zS} {u : zJ} {x1 : Int32} {r0 : Int32} (hf : f_X4_ghostsOf g x1 = some r0) : zMI l yX4_ghostsOf (zW yX4_ghostsOf cX4_ghostsOf 3 (some .int)) { frames := 3, cells := 0, slots := 0, locals := 64 } D cy [.ref (ad 0), .int x1] (wdM ad cy g u) r0 (wdM ad cy g u) := by
  unfold f_X4_ghostsOf at hf
  refine zEI (ty := .int) (by decide) (Nat.le_of_ble_eq_true rfl) ?_
  intro p e s9 m9 below meth c A Q C0 hret ls hl hP hD
  have hl : lv_has ls 3 [(0, .ref (ad 0)), (1, .int x1)] := hl
  have hS : va_S A s9.heap s9.heap [] := va_S.rf
  obtain ⟨hx, hb, hml, hown, hts⟩ := id C0.1
  refine lv_aload_n hx hb dX4_ghostsOf_0 rfl (lv_at hl 0 rfl) ?_
  refine gf_X4_13 C0 hP 0 wdM_0 rfl dX4_ghostsOf_1 ?_
  refine lv_aload_n hx hb dX4_ghostsOf_4 rfl (lv_at hl 0 rfl) ?_
  refine gf_X4_25 C0 hP 0 wdM_0 rfl dX4_ghostsOf_5 ?_
  refine lv_iload_n hx hb dX4_ghostsOf_8 rfl (lv_at hl 1 rfl) ?_
  obtain ⟨v1, ev1, h2, hf⟩ := zq_rd_s hf
  refine zia C0 hP 6 wdM_6 ev1 h2 dX4_ghostsOf_9 ?_
  obtain ⟨v3, ev3, h4, hf⟩ := zq_rd_s hf
  refine zia C0 hP 2 wdM_2 ev3 h4 dX4_ghostsOf_10 ?_
  refine lv_iload_n hx hb dX4_ghostsOf_11 rfl (lv_at hl 1 rfl) ?_
  refine lv_icmp_ne (tgt := 19) hx hb dX4_ghostsOf_12 (by decide) (fun c5 => ?_) (fun c5 => ?_)
  · have hf := it_f c5 hf
    refine lv_iconst (v := 0) hx hb dX4_ghostsOf_19 (by decide) ?_
    refine lv_istore_n (lv' := [(2, .int 0), (0, .ref (ad 0)), (1, .int x1)]) hx hb dX4_ghostsOf_20 rfl hl (by decide) rfl (fun ls hl => ?_)
    refine lv_iload_n hx hb dX4_ghostsOf_21 rfl (lv_at hl 0 rfl) ?_
    refine lv_if_eq (tgt := 29) hx hb dX4_ghostsOf_22 (by decide) (fun c6 => ?_) (fun c6 => ?_)
    · refine lv_aload_n hx hb dX4_ghostsOf_29 rfl (lv_at hl 1 rfl) ?_
      refine lv_iload_n hx hb dX4_ghostsOf_30 rfl (lv_at hl 2 rfl) ?_
      refine lv_iconst (v := 1) hx hb dX4_ghostsOf_31 (by decide) ?_
      refine lv_isub hx hb dX4_ghostsOf_32 ?_
      obtain ⟨r8, hc7, hf⟩ := zq_b1_s hf
      refine zVI (ws' := (wdM ad cy g u)) (rest := []) C0 (fun _ h => h) zF.id (c_X4_litOf hc7) hP hD hS my_X4_litOf kl_X4_159 ⟨rfl, rfl⟩ ⟨Nat.le_of_ble_eq_true rfl, Nat.le_of_ble_eq_true rfl⟩ (q0 := 0) (ci := 4) rfl wdM_0 rfl hl.1 rfl (Nat.le_of_ble_eq_true rfl) dX4_ghostsOf_33 ⟨Nat.zero_le _, Nat.zero_le _⟩ (fun H locs hP hD hS => ?_)
      refine lv_sipush (v := 32767) hx hb dX4_ghostsOf_36 (by decide) ?_
      refine lv_aload_n hx hb dX4_ghostsOf_39 rfl (lv_at hl 1 rfl) ?_
      refine lv_iload_n hx hb dX4_ghostsOf_40 rfl (lv_at hl 2 rfl) ?_
      obtain ⟨r10, hc9, hf⟩ := zq_b1_s hf
      refine zVI (ws' := (wdM ad cy g u)) (rest := [.int 32767, .int r8]) C0 (fun _ h => h) zF.id (c_X4_litOf hc9) hP hD hS my_X4_litOf kl_X4_159 ⟨rfl, rfl⟩ ⟨Nat.le_of_ble_eq_true rfl, Nat.le_of_ble_eq_true rfl⟩ (q0 := 0) (ci := 4) rfl wdM_0 rfl hl.1 rfl (Nat.le_of_ble_eq_true rfl) dX4_ghostsOf_41 ⟨Nat.zero_le _, Nat.zero_le _⟩ (fun H locs hP hD hS => ?_)
      refine lv_isub hx hb dX4_ghostsOf_44 ?_
      refine lv_iand hx hb dX4_ghostsOf_45 ?_
      obtain rfl := Option.some.inj hf
      exact hret _ _ _ _ rfl dX4_ghostsOf_46 hP hD hS
    · exact absurd c6 (by decide)
  · have hf := it_t c5 hf
    refine lv_iconst (v := 1) hx hb dX4_ghostsOf_15 (by decide) ?_
    refine lv_goto (tgt := 20) hx hb dX4_ghostsOf_16 (by decide) ?_
    refine lv_istore_n (lv' := [(2, .int 1), (0, .ref (ad 0)), (1, .int x1)]) hx hb dX4_ghostsOf_20 rfl hl (by decide) rfl (fun ls hl => ?_)
    refine lv_iload_n hx hb dX4_ghostsOf_21 rfl (lv_at hl 0 rfl) ?_
    refine lv_if_eq (tgt := 29) hx hb dX4_ghostsOf_22 (by decide) (fun c11 => ?_) (fun c11 => ?_)
    · exact absurd c11 (by decide)
    · refine lv_iconst (v := 0) hx hb dX4_ghostsOf_25 (by decide) ?_
      refine lv_goto (tgt := 46) hx hb dX4_ghostsOf_26 (by decide) ?_
      obtain rfl := Option.some.inj hf
      exact hret _ _ _ _ rfl dX4_ghostsOf_46 hP hD hS

def f_X4_darkOfAll_L8 (g : zS) : Nat → Int32 → Int32 → Option (Int32)
  | 0, _, _ => none
  | q9 + 1, x1, x2 =>
  if (g 2 0) ≤ x2 then (
  some x1) else (
  zq_b1 (f_X4_darkOf g x2) (fun r5 =>
  f_X4_darkOfAll_L8 g q9 (x1 + r5) (x2 + 1)))
def f_X4_darkOfAll (g : zS)  : Option (Int32 × zS) :=
  zq_b1 (f_X4_frames g) (fun g2 =>
  zq_b1 (f_X4_darkOfAll_L8 g2 100 0 0) (fun y7 =>
  some (y7, g2)))
set_option maxHeartbeats 4000000 in
set_option maxRecDepth 100000 in
theorem w_X4_darkOfAll_L8 {l : Launch} {p : Program} {e : Env} {s9 : State} {m9 : MethodId} {ag : Array Value} {below : List Frame} {meth : Method} {c : Code} {A : Nat → Prop} {Q : State → Prop} {D : va_G} {ad : Nat → Nat} {cy : Nat → ClassId} {g : zS} {u : zJ} (C0 : zCx p s9 m9 ag c cX4_darkOfAll 3 RX4 D cy A)  {o1 : Int32} (e0 : ∀ (H : Heap) (locs : List Loc) (ls : Array Slot), va_P D vwCl (wdM ad cy g u) H → va_D A (wdM ad cy g u) → va_S A s9.heap H locs → lv_has ls 3 [(1, .int o1)] → W p l e { frames := 4, cells := 0, slots := 0, locals := 89 } s9 m9 ag below meth c H locs 0 0 Q (F0 m9 30 ls [])) : ∀ (q9 : Nat) (x1 : Int32) (x2 : Int32), f_X4_darkOfAll_L8 g q9 x1 x2 = some o1 → ∀ (H : Heap) (locs : List Loc) (ls : Array Slot), va_P D vwCl (wdM ad cy g u) H → va_D A (wdM ad cy g u) → va_S A s9.heap H locs → lv_has ls 3 [(0, .ref (ad 0)), (1, .int x1), (2, .int x2)] → W p l e { frames := 4, cells := 0, slots := 0, locals := 89 } s9 m9 ag below meth c H locs 0 0 Q (F0 m9 8 ls []) := by
  obtain ⟨hx, hb, hml, hown, hts⟩ := id C0.1
  intro q9
  induction q9 with
  | zero =>
    intro x1 x2 hf
    rw [f_X4_darkOfAll_L8] at hf
    cases hf
  | succ q9 ih =>
    intro x1 x2 hf H locs ls hP hD hS hl
    rw [f_X4_darkOfAll_L8] at hf
    refine lv_iload_n hx hb dX4_darkOfAll_8 rfl (lv_at hl 2 rfl) ?_
    refine lv_aload_n hx hb dX4_darkOfAll_9 rfl (lv_at hl 0 rfl) ?_
    refine gf_X4_91 C0 hP 0 wdM_0 rfl dX4_darkOfAll_10 ?_
    refine lv_icmp_ge (tgt := 30) hx hb dX4_darkOfAll_13 (by decide) (fun c3 => ?_) (fun c3 => ?_)
    · have hf := it_t c3 hf
      obtain rfl := Option.some.inj hf
      exact e0 _ _ _ hP hD hS (lv_sub hl [1] rfl)
    · have hf := it_f c3 hf
      refine lv_iload_n hx hb dX4_darkOfAll_16 rfl (lv_at hl 1 rfl) ?_
      refine lv_aload_n hx hb dX4_darkOfAll_17 rfl (lv_at hl 0 rfl) ?_
      refine lv_iload_n hx hb dX4_darkOfAll_18 rfl (lv_at hl 2 rfl) ?_
      obtain ⟨r5, hc4, hf⟩ := zq_b1_s hf
      refine zVI (ws' := (wdM ad cy g u)) (rest := [.int x1]) C0 (fun _ h => h) zF.id (c_X4_darkOf hc4) hP hD hS my_X4_darkOf kl_X4_165 ⟨rfl, rfl⟩ ⟨Nat.le_of_ble_eq_true rfl, Nat.le_of_ble_eq_true rfl⟩ (q0 := 0) (ci := 4) rfl wdM_0 rfl hl.1 rfl (Nat.le_of_ble_eq_true rfl) dX4_darkOfAll_19 ⟨Nat.zero_le _, Nat.zero_le _⟩ (fun H locs hP hD hS => ?_)
      refine lv_iadd hx hb dX4_darkOfAll_22 ?_
      refine lv_istore_n (lv' := [(1, .int (x1 + r5)), (0, .ref (ad 0)), (2, .int x2)]) hx hb dX4_darkOfAll_23 rfl hl (by decide) rfl (fun ls hl => ?_)
      refine lv_iinc (v := (x2 + 1)) (lv' := [(2, .int (x2 + 1)), (1, .int (x1 + r5)), (0, .ref (ad 0))]) hx hb dX4_darkOfAll_24 hl (k := 2) rfl rfl (by decide) rfl (fun ls hl => ?_)
      refine lv_goto (tgt := 8) hx hb dX4_darkOfAll_27 (by decide) ?_
      exact ih (x1 + r5) (x2 + 1) hf _ _ _ hP hD hS (lv_sub hl [2, 1, 0] rfl)
set_option maxHeartbeats 4000000 in
set_option maxRecDepth 100000 in
theorem c_X4_darkOfAll {l : Launch} {D : va_G} {ad : Nat → Nat} {cy : Nat → ClassId} {g : zS} {u : zJ}  {r0 : Int32} {g' : zS} (hf : f_X4_darkOfAll g = some (r0, g')) : zMI l yX4_darkOfAll (zW yX4_darkOfAll cX4_darkOfAll 3 (some .int)) { frames := 4, cells := 0, slots := 0, locals := 89 } D cy [.ref (ad 0)] (wdM ad cy g u) r0 (wdM ad cy g' u) := by
  unfold f_X4_darkOfAll at hf
  refine zEI (ty := .int) (by decide) (Nat.le_of_ble_eq_true rfl) ?_
  intro p e s9 m9 below meth c A Q C0 hret ls hl hP hD
  have hl : lv_has ls 3 [(0, .ref (ad 0))] := hl
  have hS : va_S A s9.heap s9.heap [] := va_S.rf
  obtain ⟨hx, hb, hml, hown, hts⟩ := id C0.1
  refine lv_aload_n hx hb dX4_darkOfAll_0 rfl (lv_at hl 0 rfl) ?_
  obtain ⟨g2, hc1, hf⟩ := zq_b1_s hf
  refine zVV (ws' := (wdM ad cy g2 u)) (rest := []) C0 (fun _ h => h) zF.id (c_X4_frames hc1) hP hD hS my_X4_frames kl_X4_162 ⟨rfl, rfl⟩ ⟨Nat.le_of_ble_eq_true rfl, Nat.le_of_ble_eq_true rfl⟩ (q0 := 0) (ci := 4) rfl wdM_0 rfl hl.1 rfl (Nat.le_of_ble_eq_true rfl) dX4_darkOfAll_1 ⟨Nat.zero_le _, Nat.zero_le _⟩ (fun H locs hP hD hS => ?_)
  refine lv_iconst (v := 0) hx hb dX4_darkOfAll_4 (by decide) ?_
  refine lv_istore_n (lv' := [(1, .int 0), (0, .ref (ad 0))]) hx hb dX4_darkOfAll_5 rfl hl (by decide) rfl (fun ls hl => ?_)
  refine lv_iconst (v := 0) hx hb dX4_darkOfAll_6 (by decide) ?_
  refine lv_istore_n (lv' := [(2, .int 0), (1, .int 0), (0, .ref (ad 0))]) hx hb dX4_darkOfAll_7 rfl hl (by decide) rfl (fun ls hl => ?_)
  obtain ⟨y7, hL6, hf⟩ := zq_b1_s hf
  refine w_X4_darkOfAll_L8 C0 (fun H locs ls hP hD hS hl => ?_) 100 0 0 hL6 _ _ _ hP hD hS (lv_sub hl [2, 1, 0] rfl)
  refine lv_iload_n hx hb dX4_darkOfAll_30 rfl (lv_at hl 0 rfl) ?_
  obtain ⟨rfl, rfl⟩ := zq_j2 hf
  exact hret _ _ _ _ rfl dX4_darkOfAll_31 hP hD hS

def f_X4_litIn_L4 (g : zS) (x1 : Int32) : Nat → Int32 → Int32 → Option (Int32)
  | 0, _, _ => none
  | q9 + 1, x2, x3 =>
  if (g 2 0) ≤ x3 then (
  some x2) else (
  zq_b1 (f_X4_light g x3) (fun r3 =>
  zq_rd (g 17) 15 x1 (fun v4 =>
  f_X4_litIn_L4 g x1 q9 (x2 ||| (((r3 >>> (v4 &&& 31)) &&& 1) <<< (x3 &&& 31))) (x3 + 1))))
def f_X4_litIn (g : zS) (x1 : Int32) : Option (Int32) :=
  zq_b1 (f_X4_litIn_L4 g x1 100 0 0) (fun y7 =>
  some y7)
set_option maxHeartbeats 4000000 in
set_option maxRecDepth 100000 in
theorem w_X4_litIn_L4 {l : Launch} {p : Program} {e : Env} {s9 : State} {m9 : MethodId} {ag : Array Value} {below : List Frame} {meth : Method} {c : Code} {A : Nat → Prop} {Q : State → Prop} {D : va_G} {ad : Nat → Nat} {cy : Nat → ClassId} {g : zS} {u : zJ} {x1 : Int32} (C0 : zCx p s9 m9 ag c cX4_litIn 4 RX4 D cy A)  {o2 : Int32} (e0 : ∀ (H : Heap) (locs : List Loc) (ls : Array Slot), va_P D vwCl (wdM ad cy g u) H → va_D A (wdM ad cy g u) → va_S A s9.heap H locs → lv_has ls 4 [(2, .int o2)] → W p l e { frames := 2, cells := 0, slots := 0, locals := 43 } s9 m9 ag below meth c H locs 0 0 Q (F0 m9 37 ls [])) : ∀ (q9 : Nat) (x2 : Int32) (x3 : Int32), f_X4_litIn_L4 g x1 q9 x2 x3 = some o2 → ∀ (H : Heap) (locs : List Loc) (ls : Array Slot), va_P D vwCl (wdM ad cy g u) H → va_D A (wdM ad cy g u) → va_S A s9.heap H locs → lv_has ls 4 [(0, .ref (ad 0)), (1, .int x1), (2, .int x2), (3, .int x3)] → W p l e { frames := 2, cells := 0, slots := 0, locals := 43 } s9 m9 ag below meth c H locs 0 0 Q (F0 m9 4 ls []) := by
  obtain ⟨hx, hb, hml, hown, hts⟩ := id C0.1
  intro q9
  induction q9 with
  | zero =>
    intro x2 x3 hf
    rw [f_X4_litIn_L4] at hf
    cases hf
  | succ q9 ih =>
    intro x2 x3 hf H locs ls hP hD hS hl
    rw [f_X4_litIn_L4] at hf
    refine lv_iload_n hx hb dX4_litIn_4 rfl (lv_at hl 3 rfl) ?_
    refine lv_aload_n hx hb dX4_litIn_5 rfl (lv_at hl 0 rfl) ?_
    refine gf_X4_91 C0 hP 0 wdM_0 rfl dX4_litIn_6 ?_
    refine lv_icmp_ge (tgt := 37) hx hb dX4_litIn_9 (by decide) (fun c1 => ?_) (fun c1 => ?_)
    · have hf := it_t c1 hf
      obtain rfl := Option.some.inj hf
      exact e0 _ _ _ hP hD hS (lv_sub hl [2] rfl)
    · have hf := it_f c1 hf
      refine lv_iload_n hx hb dX4_litIn_12 rfl (lv_at hl 2 rfl) ?_
      refine lv_aload_n hx hb dX4_litIn_13 rfl (lv_at hl 0 rfl) ?_
      refine lv_iload_n hx hb dX4_litIn_14 rfl (lv_at hl 3 rfl) ?_
      obtain ⟨r3, hc2, hf⟩ := zq_b1_s hf
      refine zVI (ws' := (wdM ad cy g u)) (rest := [.int x2]) C0 (fun _ h => h) zF.id (c_X4_light hc2) hP hD hS my_X4_light kl_X4_153 ⟨rfl, rfl⟩ ⟨Nat.le_of_ble_eq_true rfl, Nat.le_of_ble_eq_true rfl⟩ (q0 := 0) (ci := 4) rfl wdM_0 rfl hl.1 rfl (Nat.le_of_ble_eq_true rfl) dX4_litIn_15 ⟨Nat.zero_le _, Nat.zero_le _⟩ (fun H locs hP hD hS => ?_)
      refine lv_aload_n hx hb dX4_litIn_18 rfl (lv_at hl 0 rfl) ?_
      refine gf_X4_37 C0 hP 0 wdM_0 rfl dX4_litIn_19 ?_
      refine lv_iload_n hx hb dX4_litIn_22 rfl (lv_at hl 1 rfl) ?_
      obtain ⟨v4, ev4, h5, hf⟩ := zq_rd_s hf
      refine zia C0 hP 10 wdM_10 ev4 h5 dX4_litIn_23 ?_
      refine lv_ishr hx hb dX4_litIn_24 ?_
      refine lv_iconst (v := 1) hx hb dX4_litIn_25 (by decide) ?_
      refine lv_iand hx hb dX4_litIn_26 ?_
      refine lv_iload_n hx hb dX4_litIn_27 rfl (lv_at hl 3 rfl) ?_
      refine lv_ishl hx hb dX4_litIn_28 ?_
      refine lv_ior hx hb dX4_litIn_29 ?_
      refine lv_istore_n (lv' := [(2, .int (x2 ||| (((r3 >>> (v4 &&& 31)) &&& 1) <<< (x3 &&& 31)))), (0, .ref (ad 0)), (1, .int x1), (3, .int x3)]) hx hb dX4_litIn_30 rfl hl (by decide) rfl (fun ls hl => ?_)
      refine lv_iinc (v := (x3 + 1)) (lv' := [(3, .int (x3 + 1)), (2, .int (x2 ||| (((r3 >>> (v4 &&& 31)) &&& 1) <<< (x3 &&& 31)))), (0, .ref (ad 0)), (1, .int x1)]) hx hb dX4_litIn_31 hl (k := 3) rfl rfl (by decide) rfl (fun ls hl => ?_)
      refine lv_goto (tgt := 4) hx hb dX4_litIn_34 (by decide) ?_
      exact ih (x2 ||| (((r3 >>> (v4 &&& 31)) &&& 1) <<< (x3 &&& 31))) (x3 + 1) hf _ _ _ hP hD hS (lv_sub hl [2, 3, 1, 0] rfl)
set_option maxHeartbeats 4000000 in
set_option maxRecDepth 100000 in
theorem c_X4_litIn {l : Launch} {D : va_G} {ad : Nat → Nat} {cy : Nat → ClassId} {g : zS} {u : zJ} {x1 : Int32} {r0 : Int32} (hf : f_X4_litIn g x1 = some r0) : zMI l yX4_litIn (zW yX4_litIn cX4_litIn 4 (some .int)) { frames := 2, cells := 0, slots := 0, locals := 43 } D cy [.ref (ad 0), .int x1] (wdM ad cy g u) r0 (wdM ad cy g u) := by
  unfold f_X4_litIn at hf
  refine zEI (ty := .int) (by decide) (Nat.le_of_ble_eq_true rfl) ?_
  intro p e s9 m9 below meth c A Q C0 hret ls hl hP hD
  have hl : lv_has ls 4 [(0, .ref (ad 0)), (1, .int x1)] := hl
  have hS : va_S A s9.heap s9.heap [] := va_S.rf
  obtain ⟨hx, hb, hml, hown, hts⟩ := id C0.1
  refine lv_iconst (v := 0) hx hb dX4_litIn_0 (by decide) ?_
  refine lv_istore_n (lv' := [(2, .int 0), (0, .ref (ad 0)), (1, .int x1)]) hx hb dX4_litIn_1 rfl hl (by decide) rfl (fun ls hl => ?_)
  refine lv_iconst (v := 0) hx hb dX4_litIn_2 (by decide) ?_
  refine lv_istore_n (lv' := [(3, .int 0), (2, .int 0), (0, .ref (ad 0)), (1, .int x1)]) hx hb dX4_litIn_3 rfl hl (by decide) rfl (fun ls hl => ?_)
  obtain ⟨y7, hL6, hf⟩ := zq_b1_s hf
  refine w_X4_litIn_L4 C0 (fun H locs ls hP hD hS hl => ?_) 100 0 0 hL6 _ _ _ hP hD hS (lv_sub hl [2, 3, 1, 0] rfl)
  refine lv_iload_n hx hb dX4_litIn_37 rfl (lv_at hl 0 rfl) ?_
  obtain rfl := Option.some.inj hf
  exact hret _ _ _ _ rfl dX4_litIn_38 hP hD hS

def f_X4_ofModule_L15 (g : zS) (x1 : Int32) : Nat → Int32 → Int32 → Option (Int32)
  | 0, _, _ => none
  | q9 + 1, x3, x4 =>
  if x1 ≤ x4 then (
  some x3) else (
  zq_rd (g 7) 4 x4 (fun v5 =>
  f_X4_ofModule_L15 g x1 q9 (x3 + (1 - v5)) (x4 + 1)))
def f_X4_ofModule (g : zS) (x1 : Int32) (x2 : Int32) : Option (Int32) :=
  zq_b1 (f_X4_noModule g x1) (fun r2 =>
  if r2 = 0 then (
  zq_b1 (f_X4_ofModule_L15 g x1 100 0 0) (fun y8 =>
  if x2 = 0 then (
  zq_rd (g 4) 4 x1 (fun v10 =>
  some v10)) else (
  if x2 = 1 then (
  zq_rd (g 6) 4 x1 (fun v13 =>
  some v13)) else (
  if x2 = 2 then (
  zq_rd (g 5) 4 x1 (fun v16 =>
  some v16)) else (
  if x2 = 3 then (
  zq_rd (g 7) 4 x1 (fun v19 =>
  some v19)) else (
  if x2 = 4 then (
  zq_rd (g 7) 4 x1 (fun v22 =>
  if v22 = 1 then (
  some (-9)) else (
  some y8))) else (
  some (-2)))))))) else (
  some (-1)))
set_option maxHeartbeats 4000000 in
set_option maxRecDepth 100000 in
theorem w_X4_ofModule_L15 {l : Launch} {p : Program} {e : Env} {s9 : State} {m9 : MethodId} {ag : Array Value} {below : List Frame} {meth : Method} {c : Code} {A : Nat → Prop} {Q : State → Prop} {D : va_G} {ad : Nat → Nat} {cy : Nat → ClassId} {g : zS} {u : zJ} {x1 : Int32} {x2 : Int32} (C0 : zCx p s9 m9 ag c cX4_ofModule 5 RX4 D cy A)  {o3 : Int32} (e0 : ∀ (H : Heap) (locs : List Loc) (ls : Array Slot), va_P D vwCl (wdM ad cy g u) H → va_D A (wdM ad cy g u) → va_S A s9.heap H locs → lv_has ls 5 [(0, .ref (ad 0)), (1, .int x1), (2, .int x2), (3, .int o3)] → W p l e { frames := 2, cells := 0, slots := 0, locals := 46 } s9 m9 ag below meth c H locs 0 0 Q (F0 m9 39 ls [])) : ∀ (q9 : Nat) (x3 : Int32) (x4 : Int32), f_X4_ofModule_L15 g x1 q9 x3 x4 = some o3 → ∀ (H : Heap) (locs : List Loc) (ls : Array Slot), va_P D vwCl (wdM ad cy g u) H → va_D A (wdM ad cy g u) → va_S A s9.heap H locs → lv_has ls 5 [(0, .ref (ad 0)), (1, .int x1), (2, .int x2), (3, .int x3), (4, .int x4)] → W p l e { frames := 2, cells := 0, slots := 0, locals := 46 } s9 m9 ag below meth c H locs 0 0 Q (F0 m9 15 ls []) := by
  obtain ⟨hx, hb, hml, hown, hts⟩ := id C0.1
  intro q9
  induction q9 with
  | zero =>
    intro x3 x4 hf
    rw [f_X4_ofModule_L15] at hf
    cases hf
  | succ q9 ih =>
    intro x3 x4 hf H locs ls hP hD hS hl
    rw [f_X4_ofModule_L15] at hf
    refine lv_iload hx hb dX4_ofModule_15 (lv_at hl 4 rfl) ?_
    refine lv_iload_n hx hb dX4_ofModule_17 rfl (lv_at hl 1 rfl) ?_
    refine lv_icmp_ge (tgt := 39) hx hb dX4_ofModule_18 (by decide) (fun c4 => ?_) (fun c4 => ?_)
    · have hf := it_t c4 hf
      obtain rfl := Option.some.inj hf
      exact e0 _ _ _ hP hD hS (lv_sub hl [0, 1, 2, 3] rfl)
    · have hf := it_f c4 hf
      refine lv_iload_n hx hb dX4_ofModule_21 rfl (lv_at hl 3 rfl) ?_
      refine lv_iconst (v := 1) hx hb dX4_ofModule_22 (by decide) ?_
      refine lv_aload_n hx hb dX4_ofModule_23 rfl (lv_at hl 0 rfl) ?_
      refine gf_X4_19 C0 hP 0 wdM_0 rfl dX4_ofModule_24 ?_
      refine lv_iload hx hb dX4_ofModule_27 (lv_at hl 4 rfl) ?_
      obtain ⟨v5, ev5, h6, hf⟩ := zq_rd_s hf
      refine zia C0 hP 4 wdM_4 ev5 h6 dX4_ofModule_29 ?_
      refine lv_isub hx hb dX4_ofModule_30 ?_
      refine lv_iadd hx hb dX4_ofModule_31 ?_
      refine lv_istore_n (lv' := [(3, .int (x3 + (1 - v5))), (0, .ref (ad 0)), (1, .int x1), (2, .int x2), (4, .int x4)]) hx hb dX4_ofModule_32 rfl hl (by decide) rfl (fun ls hl => ?_)
      refine lv_iinc (v := (x4 + 1)) (lv' := [(4, .int (x4 + 1)), (3, .int (x3 + (1 - v5))), (0, .ref (ad 0)), (1, .int x1), (2, .int x2)]) hx hb dX4_ofModule_33 hl (k := 4) rfl rfl (by decide) rfl (fun ls hl => ?_)
      refine lv_goto (tgt := 15) hx hb dX4_ofModule_36 (by decide) ?_
      exact ih (x3 + (1 - v5)) (x4 + 1) hf _ _ _ hP hD hS (lv_sub hl [2, 3, 4, 1, 0] rfl)
set_option maxHeartbeats 4000000 in
set_option maxRecDepth 100000 in
theorem c_X4_ofModule {l : Launch} {D : va_G} {ad : Nat → Nat} {cy : Nat → ClassId} {g : zS} {u : zJ} {x1 : Int32} {x2 : Int32} {r0 : Int32} (hf : f_X4_ofModule g x1 x2 = some r0) : zMI l yX4_ofModule (zW yX4_ofModule cX4_ofModule 5 (some .int)) { frames := 2, cells := 0, slots := 0, locals := 46 } D cy [.ref (ad 0), .int x1, .int x2] (wdM ad cy g u) r0 (wdM ad cy g u) := by
  unfold f_X4_ofModule at hf
  refine zEI (ty := .int) (by decide) (Nat.le_of_ble_eq_true rfl) ?_
  intro p e s9 m9 below meth c A Q C0 hret ls hl hP hD
  have hl : lv_has ls 5 [(0, .ref (ad 0)), (1, .int x1), (2, .int x2)] := hl
  have hS : va_S A s9.heap s9.heap [] := va_S.rf
  obtain ⟨hx, hb, hml, hown, hts⟩ := id C0.1
  refine lv_aload_n hx hb dX4_ofModule_0 rfl (lv_at hl 0 rfl) ?_
  refine lv_iload_n hx hb dX4_ofModule_1 rfl (lv_at hl 1 rfl) ?_
  obtain ⟨r2, hc1, hf⟩ := zq_b1_s hf
  refine zVI (ws' := (wdM ad cy g u)) (rest := []) C0 (fun _ h => h) zF.id (c_X4_noModule hc1) hP hD hS my_X4_noModule kl_X4_168 ⟨rfl, rfl⟩ ⟨Nat.le_of_ble_eq_true rfl, Nat.le_of_ble_eq_true rfl⟩ (q0 := 0) (ci := 4) rfl wdM_0 rfl hl.1 rfl (Nat.le_of_ble_eq_true rfl) dX4_ofModule_2 ⟨Nat.zero_le _, Nat.zero_le _⟩ (fun H locs hP hD hS => ?_)
  refine lv_if_eq (tgt := 10) hx hb dX4_ofModule_5 (by decide) (fun c3 => ?_) (fun c3 => ?_)
  · have hf := it_t c3 hf
    refine lv_iconst (v := 0) hx hb dX4_ofModule_10 (by decide) ?_
    refine lv_istore_n (lv' := [(3, .int 0), (0, .ref (ad 0)), (1, .int x1), (2, .int x2)]) hx hb dX4_ofModule_11 rfl hl (by decide) rfl (fun ls hl => ?_)
    refine lv_iconst (v := 0) hx hb dX4_ofModule_12 (by decide) ?_
    refine lv_istore (lv' := [(4, .int 0), (3, .int 0), (0, .ref (ad 0)), (1, .int x1), (2, .int x2)]) hx hb dX4_ofModule_13 hl (by decide) rfl (fun ls hl => ?_)
    obtain ⟨y8, hL7, hf⟩ := zq_b1_s hf
    refine w_X4_ofModule_L15 C0 (fun H locs ls hP hD hS hl => ?_) 100 0 0 hL7 _ _ _ hP hD hS (lv_sub hl [2, 3, 4, 1, 0] rfl)
    refine lv_iload_n hx hb dX4_ofModule_39 rfl (lv_at hl 2 rfl) ?_
    by_cases c9 : x2 = 0
    · have hf := it_t c9 hf
      refine lv_tableIn (off := 36) (tgt := 76) hx hb dX4_ofModule_40 (by rw [c9]; decide) (by rw [c9]; decide) (by rw [c9]; rfl) (by decide) ?_
      refine lv_aload_n hx hb dX4_ofModule_76 rfl (lv_at hl 0 rfl) ?_
      refine gf_X4_7 C0 hP 0 wdM_0 rfl dX4_ofModule_77 ?_
      refine lv_iload_n hx hb dX4_ofModule_80 rfl (lv_at hl 1 rfl) ?_
      obtain ⟨v10, ev10, h11, hf⟩ := zq_rd_s hf
      refine zia C0 hP 1 wdM_1 ev10 h11 dX4_ofModule_81 ?_
      obtain rfl := Option.some.inj hf
      exact hret _ _ _ _ rfl dX4_ofModule_82 hP hD hS
    have hf := it_f c9 hf
    by_cases c12 : x2 = 1
    · have hf := it_t c12 hf
      refine lv_tableIn (off := 43) (tgt := 83) hx hb dX4_ofModule_40 (by rw [c12]; decide) (by rw [c12]; decide) (by rw [c12]; rfl) (by decide) ?_
      refine lv_aload_n hx hb dX4_ofModule_83 rfl (lv_at hl 0 rfl) ?_
      refine gf_X4_16 C0 hP 0 wdM_0 rfl dX4_ofModule_84 ?_
      refine lv_iload_n hx hb dX4_ofModule_87 rfl (lv_at hl 1 rfl) ?_
      obtain ⟨v13, ev13, h14, hf⟩ := zq_rd_s hf
      refine zia C0 hP 3 wdM_3 ev13 h14 dX4_ofModule_88 ?_
      obtain rfl := Option.some.inj hf
      exact hret _ _ _ _ rfl dX4_ofModule_89 hP hD hS
    have hf := it_f c12 hf
    by_cases c15 : x2 = 2
    · have hf := it_t c15 hf
      refine lv_tableIn (off := 50) (tgt := 90) hx hb dX4_ofModule_40 (by rw [c15]; decide) (by rw [c15]; decide) (by rw [c15]; rfl) (by decide) ?_
      refine lv_aload_n hx hb dX4_ofModule_90 rfl (lv_at hl 0 rfl) ?_
      refine gf_X4_13 C0 hP 0 wdM_0 rfl dX4_ofModule_91 ?_
      refine lv_iload_n hx hb dX4_ofModule_94 rfl (lv_at hl 1 rfl) ?_
      obtain ⟨v16, ev16, h17, hf⟩ := zq_rd_s hf
      refine zia C0 hP 2 wdM_2 ev16 h17 dX4_ofModule_95 ?_
      obtain rfl := Option.some.inj hf
      exact hret _ _ _ _ rfl dX4_ofModule_96 hP hD hS
    have hf := it_f c15 hf
    by_cases c18 : x2 = 3
    · have hf := it_t c18 hf
      refine lv_tableIn (off := 57) (tgt := 97) hx hb dX4_ofModule_40 (by rw [c18]; decide) (by rw [c18]; decide) (by rw [c18]; rfl) (by decide) ?_
      refine lv_aload_n hx hb dX4_ofModule_97 rfl (lv_at hl 0 rfl) ?_
      refine gf_X4_19 C0 hP 0 wdM_0 rfl dX4_ofModule_98 ?_
      refine lv_iload_n hx hb dX4_ofModule_101 rfl (lv_at hl 1 rfl) ?_
      obtain ⟨v19, ev19, h20, hf⟩ := zq_rd_s hf
      refine zia C0 hP 4 wdM_4 ev19 h20 dX4_ofModule_102 ?_
      obtain rfl := Option.some.inj hf
      exact hret _ _ _ _ rfl dX4_ofModule_103 hP hD hS
    have hf := it_f c18 hf
    by_cases c21 : x2 = 4
    · have hf := it_t c21 hf
      refine lv_tableIn (off := 64) (tgt := 104) hx hb dX4_ofModule_40 (by rw [c21]; decide) (by rw [c21]; decide) (by rw [c21]; rfl) (by decide) ?_
      refine lv_aload_n hx hb dX4_ofModule_104 rfl (lv_at hl 0 rfl) ?_
      refine gf_X4_19 C0 hP 0 wdM_0 rfl dX4_ofModule_105 ?_
      refine lv_iload_n hx hb dX4_ofModule_108 rfl (lv_at hl 1 rfl) ?_
      obtain ⟨v22, ev22, h23, hf⟩ := zq_rd_s hf
      refine zia C0 hP 4 wdM_4 ev22 h23 dX4_ofModule_109 ?_
      refine lv_iconst (v := 1) hx hb dX4_ofModule_110 (by decide) ?_
      refine lv_icmp_ne (tgt := 119) hx hb dX4_ofModule_111 (by decide) (fun c24 => ?_) (fun c24 => ?_)
      · have hf := it_f c24 hf
        refine lv_iload_n hx hb dX4_ofModule_119 rfl (lv_at hl 3 rfl) ?_
        obtain rfl := Option.some.inj hf
        exact hret _ _ _ _ rfl dX4_ofModule_120 hP hD hS
      · have hf := it_t c24 hf
        refine lv_bipush (v := (-9)) hx hb dX4_ofModule_114 (by decide) ?_
        refine lv_goto (tgt := 120) hx hb dX4_ofModule_116 (by decide) ?_
        obtain rfl := Option.some.inj hf
        exact hret _ _ _ _ rfl dX4_ofModule_120 hP hD hS
    have hf := it_f c21 hf
    refine lv_tableOut (tgt := 121) hx hb dX4_ofModule_40 (by have := lv_neT c9 (show (0 : Int32).toInt = 0 by decide); have := lv_neT c12 (show (1 : Int32).toInt = 1 by decide); have := lv_neT c15 (show (2 : Int32).toInt = 2 by decide); have := lv_neT c18 (show (3 : Int32).toInt = 3 by decide); have := lv_neT c21 (show (4 : Int32).toInt = 4 by decide); omega) (by decide) ?_
    refine lv_bipush (v := (-2)) hx hb dX4_ofModule_121 (by decide) ?_
    obtain rfl := Option.some.inj hf
    exact hret _ _ _ _ rfl dX4_ofModule_123 hP hD hS
  · have hf := it_f c3 hf
    refine lv_iconst (v := (-1)) hx hb dX4_ofModule_8 (by decide) ?_
    obtain rfl := Option.some.inj hf
    exact hret _ _ _ _ rfl dX4_ofModule_9 hP hD hS

def f_X4_ofLamp (g : zS) (x1 : Int32) (x2 : Int32) : Option (Int32 × zS) :=
  zq_b1 (f_X4_noLamp g x1) (fun r2 =>
  if r2 = 0 then (
  zq_b1 (f_X4_frames g) (fun g5 =>
  if x2 = 0 then (
  zq_rd (g5 9) 16 x1 (fun v7 =>
  some (v7, g5))) else (
  if x2 = 1 then (
  zq_rd (g5 8) 16 x1 (fun v10 =>
  some (v10, g5))) else (
  if x2 = 2 then (
  zq_b1 (f_X4_light g5 x1) (fun r14 =>
  some (r14, g5))) else (
  if x2 = 3 then (
  zq_b1 (f_X4_darkOf g5 x1) (fun r17 =>
  some (r17, g5))) else (
  if x2 = 4 then (
  zq_b1 (f_X4_turnsOf g5 x1) (fun r20 =>
  some (r20, g5))) else (
  if x2 = 5 then (
  zq_b1 (f_X4_litOf g5 x1) (fun r23 =>
  some (r23, g5))) else (
  if x2 = 6 then (
  zq_b1 (f_X4_ghostsOf g5 x1) (fun r26 =>
  some (r26, g5))) else (
  some ((-2), g5)))))))))) else (
  some ((-1), g)))
set_option maxHeartbeats 4000000 in
set_option maxRecDepth 100000 in
theorem c_X4_ofLamp {l : Launch} {D : va_G} {ad : Nat → Nat} {cy : Nat → ClassId} {g : zS} {u : zJ} {x1 : Int32} {x2 : Int32} {r0 : Int32} {g' : zS} (hf : f_X4_ofLamp g x1 x2 = some (r0, g')) : zMI l yX4_ofLamp (zW yX4_ofLamp cX4_ofLamp 3 (some .int)) { frames := 4, cells := 0, slots := 0, locals := 89 } D cy [.ref (ad 0), .int x1, .int x2] (wdM ad cy g u) r0 (wdM ad cy g' u) := by
  unfold f_X4_ofLamp at hf
  refine zEI (ty := .int) (by decide) (Nat.le_of_ble_eq_true rfl) ?_
  intro p e s9 m9 below meth c A Q C0 hret ls hl hP hD
  have hl : lv_has ls 3 [(0, .ref (ad 0)), (1, .int x1), (2, .int x2)] := hl
  have hS : va_S A s9.heap s9.heap [] := va_S.rf
  obtain ⟨hx, hb, hml, hown, hts⟩ := id C0.1
  refine lv_aload_n hx hb dX4_ofLamp_0 rfl (lv_at hl 0 rfl) ?_
  refine lv_iload_n hx hb dX4_ofLamp_1 rfl (lv_at hl 1 rfl) ?_
  obtain ⟨r2, hc1, hf⟩ := zq_b1_s hf
  refine zVI (ws' := (wdM ad cy g u)) (rest := []) C0 (fun _ h => h) zF.id (c_X4_noLamp hc1) hP hD hS my_X4_noLamp kl_X4_171 ⟨rfl, rfl⟩ ⟨Nat.le_of_ble_eq_true rfl, Nat.le_of_ble_eq_true rfl⟩ (q0 := 0) (ci := 4) rfl wdM_0 rfl hl.1 rfl (Nat.le_of_ble_eq_true rfl) dX4_ofLamp_2 ⟨Nat.zero_le _, Nat.zero_le _⟩ (fun H locs hP hD hS => ?_)
  refine lv_if_eq (tgt := 10) hx hb dX4_ofLamp_5 (by decide) (fun c3 => ?_) (fun c3 => ?_)
  · have hf := it_t c3 hf
    refine lv_aload_n hx hb dX4_ofLamp_10 rfl (lv_at hl 0 rfl) ?_
    obtain ⟨g5, hc4, hf⟩ := zq_b1_s hf
    refine zVV (ws' := (wdM ad cy g5 u)) (rest := []) C0 (fun _ h => h) zF.id (c_X4_frames hc4) hP hD hS my_X4_frames kl_X4_162 ⟨rfl, rfl⟩ ⟨Nat.le_of_ble_eq_true rfl, Nat.le_of_ble_eq_true rfl⟩ (q0 := 0) (ci := 4) rfl wdM_0 rfl hl.1 rfl (Nat.le_of_ble_eq_true rfl) dX4_ofLamp_11 ⟨Nat.zero_le _, Nat.zero_le _⟩ (fun H locs hP hD hS => ?_)
    refine lv_iload_n hx hb dX4_ofLamp_14 rfl (lv_at hl 2 rfl) ?_
    by_cases c6 : x2 = 0
    · have hf := it_t c6 hf
      refine lv_tableIn (off := 41) (tgt := 56) hx hb dX4_ofLamp_15 (by rw [c6]; decide) (by rw [c6]; decide) (by rw [c6]; rfl) (by decide) ?_
      refine lv_aload_n hx hb dX4_ofLamp_56 rfl (lv_at hl 0 rfl) ?_
      refine gf_X4_25 C0 hP 0 wdM_0 rfl dX4_ofLamp_57 ?_
      refine lv_iload_n hx hb dX4_ofLamp_60 rfl (lv_at hl 1 rfl) ?_
      obtain ⟨v7, ev7, h8, hf⟩ := zq_rd_s hf
      refine zia C0 hP 6 wdM_6 ev7 h8 dX4_ofLamp_61 ?_
      obtain ⟨rfl, rfl⟩ := zq_j2 hf
      exact hret _ _ _ _ rfl dX4_ofLamp_62 hP hD hS
    have hf := it_f c6 hf
    by_cases c9 : x2 = 1
    · have hf := it_t c9 hf
      refine lv_tableIn (off := 48) (tgt := 63) hx hb dX4_ofLamp_15 (by rw [c9]; decide) (by rw [c9]; decide) (by rw [c9]; rfl) (by decide) ?_
      refine lv_aload_n hx hb dX4_ofLamp_63 rfl (lv_at hl 0 rfl) ?_
      refine gf_X4_22 C0 hP 0 wdM_0 rfl dX4_ofLamp_64 ?_
      refine lv_iload_n hx hb dX4_ofLamp_67 rfl (lv_at hl 1 rfl) ?_
      obtain ⟨v10, ev10, h11, hf⟩ := zq_rd_s hf
      refine zia C0 hP 5 wdM_5 ev10 h11 dX4_ofLamp_68 ?_
      obtain ⟨rfl, rfl⟩ := zq_j2 hf
      exact hret _ _ _ _ rfl dX4_ofLamp_69 hP hD hS
    have hf := it_f c9 hf
    by_cases c12 : x2 = 2
    · have hf := it_t c12 hf
      refine lv_tableIn (off := 55) (tgt := 70) hx hb dX4_ofLamp_15 (by rw [c12]; decide) (by rw [c12]; decide) (by rw [c12]; rfl) (by decide) ?_
      refine lv_aload_n hx hb dX4_ofLamp_70 rfl (lv_at hl 0 rfl) ?_
      refine lv_iload_n hx hb dX4_ofLamp_71 rfl (lv_at hl 1 rfl) ?_
      obtain ⟨r14, hc13, hf⟩ := zq_b1_s hf
      refine zVI (ws' := (wdM ad cy g5 u)) (rest := []) C0 (fun _ h => h) zF.id (c_X4_light hc13) hP hD hS my_X4_light kl_X4_153 ⟨rfl, rfl⟩ ⟨Nat.le_of_ble_eq_true rfl, Nat.le_of_ble_eq_true rfl⟩ (q0 := 0) (ci := 4) rfl wdM_0 rfl hl.1 rfl (Nat.le_of_ble_eq_true rfl) dX4_ofLamp_72 ⟨Nat.zero_le _, Nat.zero_le _⟩ (fun H locs hP hD hS => ?_)
      obtain ⟨rfl, rfl⟩ := zq_j2 hf
      exact hret _ _ _ _ rfl dX4_ofLamp_75 hP hD hS
    have hf := it_f c12 hf
    by_cases c15 : x2 = 3
    · have hf := it_t c15 hf
      refine lv_tableIn (off := 61) (tgt := 76) hx hb dX4_ofLamp_15 (by rw [c15]; decide) (by rw [c15]; decide) (by rw [c15]; rfl) (by decide) ?_
      refine lv_aload_n hx hb dX4_ofLamp_76 rfl (lv_at hl 0 rfl) ?_
      refine lv_iload_n hx hb dX4_ofLamp_77 rfl (lv_at hl 1 rfl) ?_
      obtain ⟨r17, hc16, hf⟩ := zq_b1_s hf
      refine zVI (ws' := (wdM ad cy g5 u)) (rest := []) C0 (fun _ h => h) zF.id (c_X4_darkOf hc16) hP hD hS my_X4_darkOf kl_X4_165 ⟨rfl, rfl⟩ ⟨Nat.le_of_ble_eq_true rfl, Nat.le_of_ble_eq_true rfl⟩ (q0 := 0) (ci := 4) rfl wdM_0 rfl hl.1 rfl (Nat.le_of_ble_eq_true rfl) dX4_ofLamp_78 ⟨Nat.zero_le _, Nat.zero_le _⟩ (fun H locs hP hD hS => ?_)
      obtain ⟨rfl, rfl⟩ := zq_j2 hf
      exact hret _ _ _ _ rfl dX4_ofLamp_81 hP hD hS
    have hf := it_f c15 hf
    by_cases c18 : x2 = 4
    · have hf := it_t c18 hf
      refine lv_tableIn (off := 67) (tgt := 82) hx hb dX4_ofLamp_15 (by rw [c18]; decide) (by rw [c18]; decide) (by rw [c18]; rfl) (by decide) ?_
      refine lv_aload_n hx hb dX4_ofLamp_82 rfl (lv_at hl 0 rfl) ?_
      refine lv_iload_n hx hb dX4_ofLamp_83 rfl (lv_at hl 1 rfl) ?_
      obtain ⟨r20, hc19, hf⟩ := zq_b1_s hf
      refine zVI (ws' := (wdM ad cy g5 u)) (rest := []) C0 (fun _ h => h) zF.id (c_X4_turnsOf hc19) hP hD hS my_X4_turnsOf kl_X4_174 ⟨rfl, rfl⟩ ⟨Nat.le_of_ble_eq_true rfl, Nat.le_of_ble_eq_true rfl⟩ (q0 := 0) (ci := 4) rfl wdM_0 rfl hl.1 rfl (Nat.le_of_ble_eq_true rfl) dX4_ofLamp_84 ⟨Nat.zero_le _, Nat.zero_le _⟩ (fun H locs hP hD hS => ?_)
      obtain ⟨rfl, rfl⟩ := zq_j2 hf
      exact hret _ _ _ _ rfl dX4_ofLamp_87 hP hD hS
    have hf := it_f c18 hf
    by_cases c21 : x2 = 5
    · have hf := it_t c21 hf
      refine lv_tableIn (off := 73) (tgt := 88) hx hb dX4_ofLamp_15 (by rw [c21]; decide) (by rw [c21]; decide) (by rw [c21]; rfl) (by decide) ?_
      refine lv_aload_n hx hb dX4_ofLamp_88 rfl (lv_at hl 0 rfl) ?_
      refine lv_iload_n hx hb dX4_ofLamp_89 rfl (lv_at hl 1 rfl) ?_
      obtain ⟨r23, hc22, hf⟩ := zq_b1_s hf
      refine zVI (ws' := (wdM ad cy g5 u)) (rest := []) C0 (fun _ h => h) zF.id (c_X4_litOf hc22) hP hD hS my_X4_litOf kl_X4_159 ⟨rfl, rfl⟩ ⟨Nat.le_of_ble_eq_true rfl, Nat.le_of_ble_eq_true rfl⟩ (q0 := 0) (ci := 4) rfl wdM_0 rfl hl.1 rfl (Nat.le_of_ble_eq_true rfl) dX4_ofLamp_90 ⟨Nat.zero_le _, Nat.zero_le _⟩ (fun H locs hP hD hS => ?_)
      obtain ⟨rfl, rfl⟩ := zq_j2 hf
      exact hret _ _ _ _ rfl dX4_ofLamp_93 hP hD hS
    have hf := it_f c21 hf
    by_cases c24 : x2 = 6
    · have hf := it_t c24 hf
      refine lv_tableIn (off := 79) (tgt := 94) hx hb dX4_ofLamp_15 (by rw [c24]; decide) (by rw [c24]; decide) (by rw [c24]; rfl) (by decide) ?_
      refine lv_aload_n hx hb dX4_ofLamp_94 rfl (lv_at hl 0 rfl) ?_
      refine lv_iload_n hx hb dX4_ofLamp_95 rfl (lv_at hl 1 rfl) ?_
      obtain ⟨r26, hc25, hf⟩ := zq_b1_s hf
      refine zVI (ws' := (wdM ad cy g5 u)) (rest := []) C0 (fun _ h => h) zF.id (c_X4_ghostsOf hc25) hP hD hS my_X4_ghostsOf kl_X4_177 ⟨rfl, rfl⟩ ⟨Nat.le_of_ble_eq_true rfl, Nat.le_of_ble_eq_true rfl⟩ (q0 := 0) (ci := 4) rfl wdM_0 rfl hl.1 rfl (Nat.le_of_ble_eq_true rfl) dX4_ofLamp_96 ⟨Nat.zero_le _, Nat.zero_le _⟩ (fun H locs hP hD hS => ?_)
      obtain ⟨rfl, rfl⟩ := zq_j2 hf
      exact hret _ _ _ _ rfl dX4_ofLamp_99 hP hD hS
    have hf := it_f c24 hf
    refine lv_tableOut (tgt := 100) hx hb dX4_ofLamp_15 (by have := lv_neT c6 (show (0 : Int32).toInt = 0 by decide); have := lv_neT c9 (show (1 : Int32).toInt = 1 by decide); have := lv_neT c12 (show (2 : Int32).toInt = 2 by decide); have := lv_neT c15 (show (3 : Int32).toInt = 3 by decide); have := lv_neT c18 (show (4 : Int32).toInt = 4 by decide); have := lv_neT c21 (show (5 : Int32).toInt = 5 by decide); have := lv_neT c24 (show (6 : Int32).toInt = 6 by decide); omega) (by decide) ?_
    refine lv_bipush (v := (-2)) hx hb dX4_ofLamp_100 (by decide) ?_
    obtain ⟨rfl, rfl⟩ := zq_j2 hf
    exact hret _ _ _ _ rfl dX4_ofLamp_102 hP hD hS
  · have hf := it_f c3 hf
    refine lv_iconst (v := (-1)) hx hb dX4_ofLamp_8 (by decide) ?_
    obtain ⟨rfl, rfl⟩ := zq_j2 hf
    exact hret _ _ _ _ rfl dX4_ofLamp_9 hP hD hS

def f_X4_isFigure  (x0 : Int32) : Option (Int32) :=
  zq_b1 (f_X4_in (Int32.toInt64 x0) 0 9) (fun r2 =>
  zq_z r2 (some r2))
set_option maxHeartbeats 4000000 in
set_option maxRecDepth 100000 in
theorem c_X4_isFigure {l : Launch} {D : va_G} {cy : Nat → ClassId}   {x0 : Int32} {r0 : Int32} (hf : f_X4_isFigure x0 = some r0) : zMI l yX4_isFigure (zW yX4_isFigure cX4_isFigure 1 (some .boolean)) { frames := 1, cells := 0, slots := 0, locals := 25 } D cy [.int x0] [] r0 [] := by
  unfold f_X4_isFigure at hf
  refine zEI (ty := .boolean) (by decide) (Nat.le_of_ble_eq_true rfl) ?_
  intro p e s9 m9 below meth c A Q C0 hret ls hl hP hD
  have hl : lv_has ls 1 [(0, .int x0)] := hl
  have hS : va_S A s9.heap s9.heap [] := va_S.rf
  obtain ⟨hx, hb, hml, hown, hts⟩ := id C0.1
  refine lv_iload_n hx hb dX4_isFigure_0 rfl (lv_at hl 0 rfl) ?_
  refine lv_i2l hx hb dX4_isFigure_1 rfl ?_
  refine lv_lconst (v := 0) hx hb dX4_isFigure_2 (by decide) ?_
  refine lv_ldc2 hx hb hown (hts _ kc_X4_180) dX4_isFigure_3 ?_
  obtain ⟨r2, hc1, hf⟩ := zq_b1_s hf
  refine zSI (ws' := []) (rest := []) C0 (fun _ h => h) zF.nil (c_X4_in hc1) hP hD hS my_X4_in kl_X4_87 ⟨rfl, rfl⟩ ⟨Nat.le_of_ble_eq_true rfl, Nat.le_of_ble_eq_true rfl⟩ rfl hl.1 rfl (Nat.le_of_ble_eq_true rfl) dX4_isFigure_6 ⟨Nat.zero_le _, Nat.zero_le _⟩ (fun H locs hP hD hS => ?_)
  obtain ⟨h3, hf⟩ := zq_z_s hf
  obtain rfl := Option.some.inj hf
  exact hret _ _ _ _ (zq_nz h3) dX4_isFigure_9 hP hD hS

def f_X4_level (g : zS) (x1 : Int32) (x2 : Int32) : Option (Int32 × zS) :=
  zq_b1 (f_X4_noLamp g x1) (fun r2 =>
  if r2 = 0 then (
  zq_b1 (f_X4_isFigure x2) (fun r5 =>
  if r5 = 0 then (
  some ((-2), g)) else (
  zq_rd (g 8) 16 x1 (fun v7 =>
  zq_in 16 x1 (zq_lt (va_up g 8 (upd (g 8) (Int32.toNatClampNeg x1) x2)) (fun g10 =>
  some (v7, g10))))))) else (
  some ((-1), g)))
set_option maxHeartbeats 4000000 in
set_option maxRecDepth 100000 in
theorem c_X4_level {l : Launch} {D : va_G} {ad : Nat → Nat} {cy : Nat → ClassId} {g : zS} {u : zJ} {x1 : Int32} {x2 : Int32} {r0 : Int32} {g' : zS} (hf : f_X4_level g x1 x2 = some (r0, g')) : zMI l yX4_level (zW yX4_level cX4_level 4 (some .int)) { frames := 2, cells := 0, slots := 0, locals := 46 } D cy [.ref (ad 0), .int x1, .int x2] (wdM ad cy g u) r0 (wdM ad cy g' u) := by
  unfold f_X4_level at hf
  refine zEI (ty := .int) (by decide) (Nat.le_of_ble_eq_true rfl) ?_
  intro p e s9 m9 below meth c A Q C0 hret ls hl hP hD
  have hl : lv_has ls 4 [(0, .ref (ad 0)), (1, .int x1), (2, .int x2)] := hl
  have hS : va_S A s9.heap s9.heap [] := va_S.rf
  obtain ⟨hx, hb, hml, hown, hts⟩ := id C0.1
  refine lv_aload_n hx hb dX4_level_0 rfl (lv_at hl 0 rfl) ?_
  refine lv_iload_n hx hb dX4_level_1 rfl (lv_at hl 1 rfl) ?_
  obtain ⟨r2, hc1, hf⟩ := zq_b1_s hf
  refine zVI (ws' := (wdM ad cy g u)) (rest := []) C0 (fun _ h => h) zF.id (c_X4_noLamp hc1) hP hD hS my_X4_noLamp kl_X4_171 ⟨rfl, rfl⟩ ⟨Nat.le_of_ble_eq_true rfl, Nat.le_of_ble_eq_true rfl⟩ (q0 := 0) (ci := 4) rfl wdM_0 rfl hl.1 rfl (Nat.le_of_ble_eq_true rfl) dX4_level_2 ⟨Nat.zero_le _, Nat.zero_le _⟩ (fun H locs hP hD hS => ?_)
  refine lv_if_eq (tgt := 10) hx hb dX4_level_5 (by decide) (fun c3 => ?_) (fun c3 => ?_)
  · have hf := it_t c3 hf
    refine lv_iload_n hx hb dX4_level_10 rfl (lv_at hl 2 rfl) ?_
    obtain ⟨r5, hc4, hf⟩ := zq_b1_s hf
    refine zSI (ws' := (wdM ad cy g u)) (rest := []) C0 (fun _ h => h) zF.nil (c_X4_isFigure hc4) hP hD hS my_X4_isFigure kl_X4_182 ⟨rfl, rfl⟩ ⟨Nat.le_of_ble_eq_true rfl, Nat.le_of_ble_eq_true rfl⟩ rfl hl.1 rfl (Nat.le_of_ble_eq_true rfl) dX4_level_11 ⟨Nat.zero_le _, Nat.zero_le _⟩ (fun H locs hP hD hS => ?_)
    refine lv_if_ne (tgt := 20) hx hb dX4_level_14 (by decide) (fun c6 => ?_) (fun c6 => ?_)
    · have hf := it_f c6 hf
      refine lv_aload_n hx hb dX4_level_20 rfl (lv_at hl 0 rfl) ?_
      refine gf_X4_22 C0 hP 0 wdM_0 rfl dX4_level_21 ?_
      refine lv_iload_n hx hb dX4_level_24 rfl (lv_at hl 1 rfl) ?_
      obtain ⟨v7, ev7, h8, hf⟩ := zq_rd_s hf
      refine zia C0 hP 5 wdM_5 ev7 h8 dX4_level_25 ?_
      refine lv_istore_n (lv' := [(3, .int v7), (0, .ref (ad 0)), (1, .int x1), (2, .int x2)]) hx hb dX4_level_26 rfl hl (by decide) rfl (fun ls hl => ?_)
      refine lv_aload_n hx hb dX4_level_27 rfl (lv_at hl 1 rfl) ?_
      refine gf_X4_22 C0 hP 0 wdM_0 rfl dX4_level_28 ?_
      refine lv_iload_n hx hb dX4_level_31 rfl (lv_at hl 2 rfl) ?_
      refine lv_iload_n hx hb dX4_level_32 rfl (lv_at hl 3 rfl) ?_
      obtain ⟨h9, hf⟩ := zq_in_s hf
      obtain ⟨g10, eg10, hf⟩ := zq_lt_s hf
      refine zis (ws' := (wdM ad cy g10 u)) C0 hP hD hS 5 wdM_5 h9 (by rw [eg10]; rfl) dX4_level_33 (fun H locs hP hD hS => ?_)
      refine lv_iload_n hx hb dX4_level_34 rfl (lv_at hl 0 rfl) ?_
      obtain ⟨rfl, rfl⟩ := zq_j2 hf
      exact hret _ _ _ _ rfl dX4_level_35 hP hD hS
    · have hf := it_t c6 hf
      refine lv_bipush (v := (-2)) hx hb dX4_level_17 (by decide) ?_
      obtain ⟨rfl, rfl⟩ := zq_j2 hf
      exact hret _ _ _ _ rfl dX4_level_19 hP hD hS
  · have hf := it_f c3 hf
    refine lv_iconst (v := (-1)) hx hb dX4_level_8 (by decide) ?_
    obtain ⟨rfl, rfl⟩ := zq_j2 hf
    exact hret _ _ _ _ rfl dX4_level_9 hP hD hS

def f_X4_die (g : zS) (x1 : Int32) : Option (Int32 × zS) :=
  zq_b1 (f_X4_noModule g x1) (fun r2 =>
  if r2 = 0 then (
  zq_rd (g 7) 4 x1 (fun v4 =>
  zq_in 4 x1 (zq_lt (va_up g 7 (upd (g 7) (Int32.toNatClampNeg x1) (1 - v4))) (fun g7 =>
  zq_rd (g7 7) 4 x1 (fun v8 =>
  some (v8, g7)))))) else (
  some ((-1), g)))
set_option maxHeartbeats 4000000 in
set_option maxRecDepth 100000 in
theorem c_X4_die {l : Launch} {D : va_G} {ad : Nat → Nat} {cy : Nat → ClassId} {g : zS} {u : zJ} {x1 : Int32} {r0 : Int32} {g' : zS} (hf : f_X4_die g x1 = some (r0, g')) : zMI l yX4_die (zW yX4_die cX4_die 2 (some .int)) { frames := 2, cells := 0, slots := 0, locals := 46 } D cy [.ref (ad 0), .int x1] (wdM ad cy g u) r0 (wdM ad cy g' u) := by
  unfold f_X4_die at hf
  refine zEI (ty := .int) (by decide) (Nat.le_of_ble_eq_true rfl) ?_
  intro p e s9 m9 below meth c A Q C0 hret ls hl hP hD
  have hl : lv_has ls 2 [(0, .ref (ad 0)), (1, .int x1)] := hl
  have hS : va_S A s9.heap s9.heap [] := va_S.rf
  obtain ⟨hx, hb, hml, hown, hts⟩ := id C0.1
  refine lv_aload_n hx hb dX4_die_0 rfl (lv_at hl 0 rfl) ?_
  refine lv_iload_n hx hb dX4_die_1 rfl (lv_at hl 1 rfl) ?_
  obtain ⟨r2, hc1, hf⟩ := zq_b1_s hf
  refine zVI (ws' := (wdM ad cy g u)) (rest := []) C0 (fun _ h => h) zF.id (c_X4_noModule hc1) hP hD hS my_X4_noModule kl_X4_168 ⟨rfl, rfl⟩ ⟨Nat.le_of_ble_eq_true rfl, Nat.le_of_ble_eq_true rfl⟩ (q0 := 0) (ci := 4) rfl wdM_0 rfl hl.1 rfl (Nat.le_of_ble_eq_true rfl) dX4_die_2 ⟨Nat.zero_le _, Nat.zero_le _⟩ (fun H locs hP hD hS => ?_)
  refine lv_if_eq (tgt := 10) hx hb dX4_die_5 (by decide) (fun c3 => ?_) (fun c3 => ?_)
  · have hf := it_t c3 hf
    refine lv_aload_n hx hb dX4_die_10 rfl (lv_at hl 0 rfl) ?_
    refine gf_X4_19 C0 hP 0 wdM_0 rfl dX4_die_11 ?_
    refine lv_iload_n hx hb dX4_die_14 rfl (lv_at hl 1 rfl) ?_
    refine lv_iconst (v := 1) hx hb dX4_die_15 (by decide) ?_
    refine lv_aload_n hx hb dX4_die_16 rfl (lv_at hl 0 rfl) ?_
    refine gf_X4_19 C0 hP 0 wdM_0 rfl dX4_die_17 ?_
    refine lv_iload_n hx hb dX4_die_20 rfl (lv_at hl 1 rfl) ?_
    obtain ⟨v4, ev4, h5, hf⟩ := zq_rd_s hf
    refine zia C0 hP 4 wdM_4 ev4 h5 dX4_die_21 ?_
    refine lv_isub hx hb dX4_die_22 ?_
    obtain ⟨h6, hf⟩ := zq_in_s hf
    obtain ⟨g7, eg7, hf⟩ := zq_lt_s hf
    refine zis (ws' := (wdM ad cy g7 u)) C0 hP hD hS 4 wdM_4 h6 (by rw [eg7]; rfl) dX4_die_23 (fun H locs hP hD hS => ?_)
    refine lv_aload_n hx hb dX4_die_24 rfl (lv_at hl 0 rfl) ?_
    refine gf_X4_19 C0 hP 0 wdM_0 rfl dX4_die_25 ?_
    refine lv_iload_n hx hb dX4_die_28 rfl (lv_at hl 1 rfl) ?_
    obtain ⟨v8, ev8, h9, hf⟩ := zq_rd_s hf
    refine zia C0 hP 4 wdM_4 ev8 h9 dX4_die_29 ?_
    obtain ⟨rfl, rfl⟩ := zq_j2 hf
    exact hret _ _ _ _ rfl dX4_die_30 hP hD hS
  · have hf := it_f c3 hf
    refine lv_iconst (v := (-1)) hx hb dX4_die_8 (by decide) ?_
    obtain ⟨rfl, rfl⟩ := zq_j2 hf
    exact hret _ _ _ _ rfl dX4_die_9 hP hD hS

def f_X4_isCut  (x0 : Int32) : Option (Int32) :=
  zq_b1 (f_X4_in (Int32.toInt64 x0) 1 8) (fun r2 =>
  zq_z r2 (some r2))
set_option maxHeartbeats 4000000 in
set_option maxRecDepth 100000 in
theorem c_X4_isCut {l : Launch} {D : va_G} {cy : Nat → ClassId}   {x0 : Int32} {r0 : Int32} (hf : f_X4_isCut x0 = some r0) : zMI l yX4_isCut (zW yX4_isCut cX4_isCut 1 (some .boolean)) { frames := 1, cells := 0, slots := 0, locals := 25 } D cy [.int x0] [] r0 [] := by
  unfold f_X4_isCut at hf
  refine zEI (ty := .boolean) (by decide) (Nat.le_of_ble_eq_true rfl) ?_
  intro p e s9 m9 below meth c A Q C0 hret ls hl hP hD
  have hl : lv_has ls 1 [(0, .int x0)] := hl
  have hS : va_S A s9.heap s9.heap [] := va_S.rf
  obtain ⟨hx, hb, hml, hown, hts⟩ := id C0.1
  refine lv_iload_n hx hb dX4_isCut_0 rfl (lv_at hl 0 rfl) ?_
  refine lv_i2l hx hb dX4_isCut_1 rfl ?_
  refine lv_lconst (v := 1) hx hb dX4_isCut_2 (by decide) ?_
  refine lv_ldc2 hx hb hown (hts _ kc_X4_114) dX4_isCut_3 ?_
  obtain ⟨r2, hc1, hf⟩ := zq_b1_s hf
  refine zSI (ws' := []) (rest := []) C0 (fun _ h => h) zF.nil (c_X4_in hc1) hP hD hS my_X4_in kl_X4_87 ⟨rfl, rfl⟩ ⟨Nat.le_of_ble_eq_true rfl, Nat.le_of_ble_eq_true rfl⟩ rfl hl.1 rfl (Nat.le_of_ble_eq_true rfl) dX4_isCut_6 ⟨Nat.zero_le _, Nat.zero_le _⟩ (fun H locs hP hD hS => ?_)
  obtain ⟨h3, hf⟩ := zq_z_s hf
  obtain rfl := Option.some.inj hf
  exact hret _ _ _ _ (zq_nz h3) dX4_isCut_9 hP hD hS

def f_X4_cut (g : zS) (x1 : Int32) : Option (Int32 × zS) :=
  zq_b1 (f_X4_isCut x1) (fun r2 =>
  if r2 = 0 then (
  some ((-2), g)) else (
  if (g 1 0) = 0 then (
  some ((-3), g)) else (
  zq_lt (va_up g 3 (fun _ => x1)) (fun g5 =>
  some ((g 3 0), g5)))))
set_option maxHeartbeats 4000000 in
set_option maxRecDepth 100000 in
theorem c_X4_cut {l : Launch} {D : va_G} {ad : Nat → Nat} {cy : Nat → ClassId} {g : zS} {u : zJ} {x1 : Int32} {r0 : Int32} {g' : zS} (hf : f_X4_cut g x1 = some (r0, g')) : zMI l yX4_cut (zW yX4_cut cX4_cut 3 (some .int)) { frames := 2, cells := 0, slots := 0, locals := 45 } D cy [.ref (ad 0), .int x1] (wdM ad cy g u) r0 (wdM ad cy g' u) := by
  unfold f_X4_cut at hf
  refine zEI (ty := .int) (by decide) (Nat.le_of_ble_eq_true rfl) ?_
  intro p e s9 m9 below meth c A Q C0 hret ls hl hP hD
  have hl : lv_has ls 3 [(0, .ref (ad 0)), (1, .int x1)] := hl
  have hS : va_S A s9.heap s9.heap [] := va_S.rf
  obtain ⟨hx, hb, hml, hown, hts⟩ := id C0.1
  refine lv_iload_n hx hb dX4_cut_0 rfl (lv_at hl 1 rfl) ?_
  obtain ⟨r2, hc1, hf⟩ := zq_b1_s hf
  refine zSI (ws' := (wdM ad cy g u)) (rest := []) C0 (fun _ h => h) zF.nil (c_X4_isCut hc1) hP hD hS my_X4_isCut kl_X4_185 ⟨rfl, rfl⟩ ⟨Nat.le_of_ble_eq_true rfl, Nat.le_of_ble_eq_true rfl⟩ rfl hl.1 rfl (Nat.le_of_ble_eq_true rfl) dX4_cut_1 ⟨Nat.zero_le _, Nat.zero_le _⟩ (fun H locs hP hD hS => ?_)
  refine lv_if_ne (tgt := 10) hx hb dX4_cut_4 (by decide) (fun c3 => ?_) (fun c3 => ?_)
  · have hf := it_f c3 hf
    refine lv_aload_n hx hb dX4_cut_10 rfl (lv_at hl 0 rfl) ?_
    refine gf_X4_84 C0 hP 0 wdM_0 rfl dX4_cut_11 ?_
    refine lv_if_ne (tgt := 20) hx hb dX4_cut_14 (by decide) (fun c4 => ?_) (fun c4 => ?_)
    · have hf := it_f c4 hf
      refine lv_aload_n hx hb dX4_cut_20 rfl (lv_at hl 0 rfl) ?_
      refine gf_X4_144 C0 hP 0 wdM_0 rfl dX4_cut_21 ?_
      refine lv_istore_n (lv' := [(2, .int (g 3 0)), (0, .ref (ad 0)), (1, .int x1)]) hx hb dX4_cut_24 rfl hl (by decide) rfl (fun ls hl => ?_)
      refine lv_aload_n hx hb dX4_cut_25 rfl (lv_at hl 1 rfl) ?_
      refine lv_iload_n hx hb dX4_cut_26 rfl (lv_at hl 2 rfl) ?_
      obtain ⟨g5, eg5, hf⟩ := zq_lt_s hf
      refine pf_X4_144 (ws' := (wdM ad cy g5 u)) C0 hP hD hS 0 wdM_0 (Nat.le_of_ble_eq_true rfl) (by rw [eg5]; rfl) dX4_cut_27 (fun H locs hP hD hS => ?_)
      refine lv_iload_n hx hb dX4_cut_30 rfl (lv_at hl 0 rfl) ?_
      obtain ⟨rfl, rfl⟩ := zq_j2 hf
      exact hret _ _ _ _ rfl dX4_cut_31 hP hD hS
    · have hf := it_t c4 hf
      refine lv_bipush (v := (-3)) hx hb dX4_cut_17 (by decide) ?_
      obtain ⟨rfl, rfl⟩ := zq_j2 hf
      exact hret _ _ _ _ rfl dX4_cut_19 hP hD hS
  · have hf := it_t c3 hf
    refine lv_bipush (v := (-2)) hx hb dX4_cut_7 (by decide) ?_
    obtain ⟨rfl, rfl⟩ := zq_j2 hf
    exact hret _ _ _ _ rfl dX4_cut_9 hP hD hS

def f_X4_ghostsIn_L4 (g : zS) (x1 : Int32) : Nat → Int32 → Int32 → Option (Int32)
  | 0, _, _ => none
  | q9 + 1, x2, x3 =>
  if (g 2 0) ≤ x3 then (
  some x2) else (
  zq_b1 (f_X4_ghostsOf g x3) (fun r3 =>
  f_X4_ghostsIn_L4 g x1 q9 (x2 + ((r3 >>> (x1 &&& 31)) &&& 1)) (x3 + 1)))
def f_X4_ghostsIn (g : zS) (x1 : Int32) : Option (Int32) :=
  zq_b1 (f_X4_ghostsIn_L4 g x1 100 0 0) (fun y5 =>
  some y5)
set_option maxHeartbeats 4000000 in
set_option maxRecDepth 100000 in
theorem w_X4_ghostsIn_L4 {l : Launch} {p : Program} {e : Env} {s9 : State} {m9 : MethodId} {ag : Array Value} {below : List Frame} {meth : Method} {c : Code} {A : Nat → Prop} {Q : State → Prop} {D : va_G} {ad : Nat → Nat} {cy : Nat → ClassId} {g : zS} {u : zJ} {x1 : Int32} (C0 : zCx p s9 m9 ag c cX4_ghostsIn 4 RX4 D cy A)  {o2 : Int32} (e0 : ∀ (H : Heap) (locs : List Loc) (ls : Array Slot), va_P D vwCl (wdM ad cy g u) H → va_D A (wdM ad cy g u) → va_S A s9.heap H locs → lv_has ls 4 [(2, .int o2)] → W p l e { frames := 4, cells := 0, slots := 0, locals := 86 } s9 m9 ag below meth c H locs 0 0 Q (F0 m9 30 ls [])) : ∀ (q9 : Nat) (x2 : Int32) (x3 : Int32), f_X4_ghostsIn_L4 g x1 q9 x2 x3 = some o2 → ∀ (H : Heap) (locs : List Loc) (ls : Array Slot), va_P D vwCl (wdM ad cy g u) H → va_D A (wdM ad cy g u) → va_S A s9.heap H locs → lv_has ls 4 [(0, .ref (ad 0)), (1, .int x1), (2, .int x2), (3, .int x3)] → W p l e { frames := 4, cells := 0, slots := 0, locals := 86 } s9 m9 ag below meth c H locs 0 0 Q (F0 m9 4 ls []) := by
  obtain ⟨hx, hb, hml, hown, hts⟩ := id C0.1
  intro q9
  induction q9 with
  | zero =>
    intro x2 x3 hf
    rw [f_X4_ghostsIn_L4] at hf
    cases hf
  | succ q9 ih =>
    intro x2 x3 hf H locs ls hP hD hS hl
    rw [f_X4_ghostsIn_L4] at hf
    refine lv_iload_n hx hb dX4_ghostsIn_4 rfl (lv_at hl 3 rfl) ?_
    refine lv_aload_n hx hb dX4_ghostsIn_5 rfl (lv_at hl 0 rfl) ?_
    refine gf_X4_91 C0 hP 0 wdM_0 rfl dX4_ghostsIn_6 ?_
    refine lv_icmp_ge (tgt := 30) hx hb dX4_ghostsIn_9 (by decide) (fun c1 => ?_) (fun c1 => ?_)
    · have hf := it_t c1 hf
      obtain rfl := Option.some.inj hf
      exact e0 _ _ _ hP hD hS (lv_sub hl [2] rfl)
    · have hf := it_f c1 hf
      refine lv_iload_n hx hb dX4_ghostsIn_12 rfl (lv_at hl 2 rfl) ?_
      refine lv_aload_n hx hb dX4_ghostsIn_13 rfl (lv_at hl 0 rfl) ?_
      refine lv_iload_n hx hb dX4_ghostsIn_14 rfl (lv_at hl 3 rfl) ?_
      obtain ⟨r3, hc2, hf⟩ := zq_b1_s hf
      refine zVI (ws' := (wdM ad cy g u)) (rest := [.int x2]) C0 (fun _ h => h) zF.id (c_X4_ghostsOf hc2) hP hD hS my_X4_ghostsOf kl_X4_177 ⟨rfl, rfl⟩ ⟨Nat.le_of_ble_eq_true rfl, Nat.le_of_ble_eq_true rfl⟩ (q0 := 0) (ci := 4) rfl wdM_0 rfl hl.1 rfl (Nat.le_of_ble_eq_true rfl) dX4_ghostsIn_15 ⟨Nat.zero_le _, Nat.zero_le _⟩ (fun H locs hP hD hS => ?_)
      refine lv_iload_n hx hb dX4_ghostsIn_18 rfl (lv_at hl 1 rfl) ?_
      refine lv_ishr hx hb dX4_ghostsIn_19 ?_
      refine lv_iconst (v := 1) hx hb dX4_ghostsIn_20 (by decide) ?_
      refine lv_iand hx hb dX4_ghostsIn_21 ?_
      refine lv_iadd hx hb dX4_ghostsIn_22 ?_
      refine lv_istore_n (lv' := [(2, .int (x2 + ((r3 >>> (x1 &&& 31)) &&& 1))), (0, .ref (ad 0)), (1, .int x1), (3, .int x3)]) hx hb dX4_ghostsIn_23 rfl hl (by decide) rfl (fun ls hl => ?_)
      refine lv_iinc (v := (x3 + 1)) (lv' := [(3, .int (x3 + 1)), (2, .int (x2 + ((r3 >>> (x1 &&& 31)) &&& 1))), (0, .ref (ad 0)), (1, .int x1)]) hx hb dX4_ghostsIn_24 hl (k := 3) rfl rfl (by decide) rfl (fun ls hl => ?_)
      refine lv_goto (tgt := 4) hx hb dX4_ghostsIn_27 (by decide) ?_
      exact ih (x2 + ((r3 >>> (x1 &&& 31)) &&& 1)) (x3 + 1) hf _ _ _ hP hD hS (lv_sub hl [2, 3, 1, 0] rfl)
set_option maxHeartbeats 4000000 in
set_option maxRecDepth 100000 in
theorem c_X4_ghostsIn {l : Launch} {D : va_G} {ad : Nat → Nat} {cy : Nat → ClassId} {g : zS} {u : zJ} {x1 : Int32} {r0 : Int32} (hf : f_X4_ghostsIn g x1 = some r0) : zMI l yX4_ghostsIn (zW yX4_ghostsIn cX4_ghostsIn 4 (some .int)) { frames := 4, cells := 0, slots := 0, locals := 86 } D cy [.ref (ad 0), .int x1] (wdM ad cy g u) r0 (wdM ad cy g u) := by
  unfold f_X4_ghostsIn at hf
  refine zEI (ty := .int) (by decide) (Nat.le_of_ble_eq_true rfl) ?_
  intro p e s9 m9 below meth c A Q C0 hret ls hl hP hD
  have hl : lv_has ls 4 [(0, .ref (ad 0)), (1, .int x1)] := hl
  have hS : va_S A s9.heap s9.heap [] := va_S.rf
  obtain ⟨hx, hb, hml, hown, hts⟩ := id C0.1
  refine lv_iconst (v := 0) hx hb dX4_ghostsIn_0 (by decide) ?_
  refine lv_istore_n (lv' := [(2, .int 0), (0, .ref (ad 0)), (1, .int x1)]) hx hb dX4_ghostsIn_1 rfl hl (by decide) rfl (fun ls hl => ?_)
  refine lv_iconst (v := 0) hx hb dX4_ghostsIn_2 (by decide) ?_
  refine lv_istore_n (lv' := [(3, .int 0), (2, .int 0), (0, .ref (ad 0)), (1, .int x1)]) hx hb dX4_ghostsIn_3 rfl hl (by decide) rfl (fun ls hl => ?_)
  obtain ⟨y5, hL4, hf⟩ := zq_b1_s hf
  refine w_X4_ghostsIn_L4 C0 (fun H locs ls hP hD hS hl => ?_) 100 0 0 hL4 _ _ _ hP hD hS (lv_sub hl [2, 3, 1, 0] rfl)
  refine lv_iload_n hx hb dX4_ghostsIn_30 rfl (lv_at hl 0 rfl) ?_
  obtain rfl := Option.some.inj hf
  exact hret _ _ _ _ rfl dX4_ghostsIn_31 hP hD hS

def f_X4_ofUnit (g : zS) (x1 : Int32) (x2 : Int32) : Option (Int32 × zS) :=
  zq_b1 (f_X4_in (Int32.toInt64 x1) 0 14) (fun r2 =>
  if r2 = 0 then (
  some ((-2), g)) else (
  zq_b1 (f_X4_in (Int32.toInt64 x2) 0 4) (fun r5 =>
  if r5 = 0 then (
  some ((-2), g)) else (
  if (g 1 0) = 0 then (
  some ((-3), g)) else (
  zq_b1 (f_X4_frames g) (fun g9 =>
  if x2 = 0 then (
  zq_rd (g9 17) 15 x1 (fun v24 =>
  some (v24, g9))) else (
  if x2 = 1 then (
  zq_b1 (f_X4_litIn g9 x1) (fun r21 =>
  zq_b1 (f_X4_bits r21) (fun r23 =>
  some (r23, g9)))) else (
  if x2 = 2 then (
  zq_b1 (f_X4_litIn g9 x1) (fun r19 =>
  some (r19, g9))) else (
  if x2 = 3 then (
  zq_rd (g9 18) 15 x1 (fun v16 =>
  some (v16, g9))) else (
  zq_b1 (f_X4_ghostsIn g9 x1) (fun r15 =>
  some (r15, g9))))))))))))
set_option maxHeartbeats 4000000 in
set_option maxRecDepth 100000 in
theorem c_X4_ofUnit {l : Launch} {D : va_G} {ad : Nat → Nat} {cy : Nat → ClassId} {g : zS} {u : zJ} {x1 : Int32} {x2 : Int32} {r0 : Int32} {g' : zS} (hf : f_X4_ofUnit g x1 x2 = some (r0, g')) : zMI l yX4_ofUnit (zW yX4_ofUnit cX4_ofUnit 3 (some .int)) { frames := 5, cells := 0, slots := 0, locals := 109 } D cy [.ref (ad 0), .int x1, .int x2] (wdM ad cy g u) r0 (wdM ad cy g' u) := by
  unfold f_X4_ofUnit at hf
  refine zEI (ty := .int) (by decide) (Nat.le_of_ble_eq_true rfl) ?_
  intro p e s9 m9 below meth c A Q C0 hret ls hl hP hD
  have hl : lv_has ls 3 [(0, .ref (ad 0)), (1, .int x1), (2, .int x2)] := hl
  have hS : va_S A s9.heap s9.heap [] := va_S.rf
  obtain ⟨hx, hb, hml, hown, hts⟩ := id C0.1
  refine lv_iload_n hx hb dX4_ofUnit_0 rfl (lv_at hl 1 rfl) ?_
  refine lv_i2l hx hb dX4_ofUnit_1 rfl ?_
  refine lv_lconst (v := 0) hx hb dX4_ofUnit_2 (by decide) ?_
  refine lv_ldc2 hx hb hown (hts _ kc_X4_188) dX4_ofUnit_3 ?_
  obtain ⟨r2, hc1, hf⟩ := zq_b1_s hf
  refine zSI (ws' := (wdM ad cy g u)) (rest := []) C0 (fun _ h => h) zF.nil (c_X4_in hc1) hP hD hS my_X4_in kl_X4_87 ⟨rfl, rfl⟩ ⟨Nat.le_of_ble_eq_true rfl, Nat.le_of_ble_eq_true rfl⟩ rfl hl.1 rfl (Nat.le_of_ble_eq_true rfl) dX4_ofUnit_6 ⟨Nat.zero_le _, Nat.zero_le _⟩ (fun H locs hP hD hS => ?_)
  refine lv_if_eq (tgt := 24) hx hb dX4_ofUnit_9 (by decide) (fun c3 => ?_) (fun c3 => ?_)
  · have hf := it_t c3 hf
    refine lv_bipush (v := (-2)) hx hb dX4_ofUnit_24 (by decide) ?_
    obtain ⟨rfl, rfl⟩ := zq_j2 hf
    exact hret _ _ _ _ rfl dX4_ofUnit_26 hP hD hS
  · have hf := it_f c3 hf
    refine lv_iload_n hx hb dX4_ofUnit_12 rfl (lv_at hl 2 rfl) ?_
    refine lv_i2l hx hb dX4_ofUnit_13 rfl ?_
    refine lv_lconst (v := 0) hx hb dX4_ofUnit_14 (by decide) ?_
    refine lv_ldc2 hx hb hown (hts _ kc_X4_190) dX4_ofUnit_15 ?_
    obtain ⟨r5, hc4, hf⟩ := zq_b1_s hf
    refine zSI (ws' := (wdM ad cy g u)) (rest := []) C0 (fun _ h => h) zF.nil (c_X4_in hc4) hP hD hS my_X4_in kl_X4_87 ⟨rfl, rfl⟩ ⟨Nat.le_of_ble_eq_true rfl, Nat.le_of_ble_eq_true rfl⟩ rfl hl.1 rfl (Nat.le_of_ble_eq_true rfl) dX4_ofUnit_18 ⟨Nat.zero_le _, Nat.zero_le _⟩ (fun H locs hP hD hS => ?_)
    refine lv_if_ne (tgt := 27) hx hb dX4_ofUnit_21 (by decide) (fun c6 => ?_) (fun c6 => ?_)
    · have hf := it_f c6 hf
      refine lv_aload_n hx hb dX4_ofUnit_27 rfl (lv_at hl 0 rfl) ?_
      refine gf_X4_84 C0 hP 0 wdM_0 rfl dX4_ofUnit_28 ?_
      refine lv_if_ne (tgt := 37) hx hb dX4_ofUnit_31 (by decide) (fun c7 => ?_) (fun c7 => ?_)
      · have hf := it_f c7 hf
        refine lv_aload_n hx hb dX4_ofUnit_37 rfl (lv_at hl 0 rfl) ?_
        obtain ⟨g9, hc8, hf⟩ := zq_b1_s hf
        refine zVV (ws' := (wdM ad cy g9 u)) (rest := []) C0 (fun _ h => h) zF.id (c_X4_frames hc8) hP hD hS my_X4_frames kl_X4_162 ⟨rfl, rfl⟩ ⟨Nat.le_of_ble_eq_true rfl, Nat.le_of_ble_eq_true rfl⟩ (q0 := 0) (ci := 4) rfl wdM_0 rfl hl.1 rfl (Nat.le_of_ble_eq_true rfl) dX4_ofUnit_38 ⟨Nat.zero_le _, Nat.zero_le _⟩ (fun H locs hP hD hS => ?_)
        refine lv_iload_n hx hb dX4_ofUnit_41 rfl (lv_at hl 2 rfl) ?_
        refine lv_if_ne (tgt := 54) hx hb dX4_ofUnit_42 (by decide) (fun c10 => ?_) (fun c10 => ?_)
        · have hf := it_f c10 hf
          refine lv_iload_n hx hb dX4_ofUnit_54 rfl (lv_at hl 2 rfl) ?_
          refine lv_iconst (v := 1) hx hb dX4_ofUnit_55 (by decide) ?_
          refine lv_icmp_ne (tgt := 70) hx hb dX4_ofUnit_56 (by decide) (fun c11 => ?_) (fun c11 => ?_)
          · have hf := it_f c11 hf
            refine lv_iload_n hx hb dX4_ofUnit_70 rfl (lv_at hl 2 rfl) ?_
            refine lv_iconst (v := 2) hx hb dX4_ofUnit_71 (by decide) ?_
            refine lv_icmp_ne (tgt := 83) hx hb dX4_ofUnit_72 (by decide) (fun c12 => ?_) (fun c12 => ?_)
            · have hf := it_f c12 hf
              refine lv_iload_n hx hb dX4_ofUnit_83 rfl (lv_at hl 2 rfl) ?_
              refine lv_iconst (v := 3) hx hb dX4_ofUnit_84 (by decide) ?_
              refine lv_icmp_ne (tgt := 97) hx hb dX4_ofUnit_85 (by decide) (fun c13 => ?_) (fun c13 => ?_)
              · have hf := it_f c13 hf
                refine lv_aload_n hx hb dX4_ofUnit_97 rfl (lv_at hl 0 rfl) ?_
                refine lv_iload_n hx hb dX4_ofUnit_98 rfl (lv_at hl 1 rfl) ?_
                obtain ⟨r15, hc14, hf⟩ := zq_b1_s hf
                refine zVI (ws' := (wdM ad cy g9 u)) (rest := []) C0 (fun _ h => h) zF.id (c_X4_ghostsIn hc14) hP hD hS my_X4_ghostsIn kl_X4_198 ⟨rfl, rfl⟩ ⟨Nat.le_of_ble_eq_true rfl, Nat.le_of_ble_eq_true rfl⟩ (q0 := 0) (ci := 4) rfl wdM_0 rfl hl.1 rfl (Nat.le_of_ble_eq_true rfl) dX4_ofUnit_99 ⟨Nat.zero_le _, Nat.zero_le _⟩ (fun H locs hP hD hS => ?_)
                obtain ⟨rfl, rfl⟩ := zq_j2 hf
                exact hret _ _ _ _ rfl dX4_ofUnit_102 hP hD hS
              · have hf := it_t c13 hf
                refine lv_aload_n hx hb dX4_ofUnit_88 rfl (lv_at hl 0 rfl) ?_
                refine gf_X4_40 C0 hP 0 wdM_0 rfl dX4_ofUnit_89 ?_
                refine lv_iload_n hx hb dX4_ofUnit_92 rfl (lv_at hl 1 rfl) ?_
                obtain ⟨v16, ev16, h17, hf⟩ := zq_rd_s hf
                refine zia C0 hP 11 wdM_11 ev16 h17 dX4_ofUnit_93 ?_
                refine lv_goto (tgt := 102) hx hb dX4_ofUnit_94 (by decide) ?_
                obtain ⟨rfl, rfl⟩ := zq_j2 hf
                exact hret _ _ _ _ rfl dX4_ofUnit_102 hP hD hS
            · have hf := it_t c12 hf
              refine lv_aload_n hx hb dX4_ofUnit_75 rfl (lv_at hl 0 rfl) ?_
              refine lv_iload_n hx hb dX4_ofUnit_76 rfl (lv_at hl 1 rfl) ?_
              obtain ⟨r19, hc18, hf⟩ := zq_b1_s hf
              refine zVI (ws' := (wdM ad cy g9 u)) (rest := []) C0 (fun _ h => h) zF.id (c_X4_litIn hc18) hP hD hS my_X4_litIn kl_X4_192 ⟨rfl, rfl⟩ ⟨Nat.le_of_ble_eq_true rfl, Nat.le_of_ble_eq_true rfl⟩ (q0 := 0) (ci := 4) rfl wdM_0 rfl hl.1 rfl (Nat.le_of_ble_eq_true rfl) dX4_ofUnit_77 ⟨Nat.zero_le _, Nat.zero_le _⟩ (fun H locs hP hD hS => ?_)
              refine lv_goto (tgt := 102) hx hb dX4_ofUnit_80 (by decide) ?_
              obtain ⟨rfl, rfl⟩ := zq_j2 hf
              exact hret _ _ _ _ rfl dX4_ofUnit_102 hP hD hS
          · have hf := it_t c11 hf
            refine lv_aload_n hx hb dX4_ofUnit_59 rfl (lv_at hl 0 rfl) ?_
            refine lv_iload_n hx hb dX4_ofUnit_60 rfl (lv_at hl 1 rfl) ?_
            obtain ⟨r21, hc20, hf⟩ := zq_b1_s hf
            refine zVI (ws' := (wdM ad cy g9 u)) (rest := []) C0 (fun _ h => h) zF.id (c_X4_litIn hc20) hP hD hS my_X4_litIn kl_X4_192 ⟨rfl, rfl⟩ ⟨Nat.le_of_ble_eq_true rfl, Nat.le_of_ble_eq_true rfl⟩ (q0 := 0) (ci := 4) rfl wdM_0 rfl hl.1 rfl (Nat.le_of_ble_eq_true rfl) dX4_ofUnit_61 ⟨Nat.zero_le _, Nat.zero_le _⟩ (fun H locs hP hD hS => ?_)
            obtain ⟨r23, hc22, hf⟩ := zq_b1_s hf
            refine zSI (ws' := (wdM ad cy g9 u)) (rest := []) C0 (fun _ h => h) zF.nil (c_X4_bits hc22) hP hD hS my_X4_bits kl_X4_195 ⟨rfl, rfl⟩ ⟨Nat.le_of_ble_eq_true rfl, Nat.le_of_ble_eq_true rfl⟩ rfl hl.1 rfl (Nat.le_of_ble_eq_true rfl) dX4_ofUnit_64 ⟨Nat.zero_le _, Nat.zero_le _⟩ (fun H locs hP hD hS => ?_)
            refine lv_goto (tgt := 102) hx hb dX4_ofUnit_67 (by decide) ?_
            obtain ⟨rfl, rfl⟩ := zq_j2 hf
            exact hret _ _ _ _ rfl dX4_ofUnit_102 hP hD hS
        · have hf := it_t c10 hf
          refine lv_aload_n hx hb dX4_ofUnit_45 rfl (lv_at hl 0 rfl) ?_
          refine gf_X4_37 C0 hP 0 wdM_0 rfl dX4_ofUnit_46 ?_
          refine lv_iload_n hx hb dX4_ofUnit_49 rfl (lv_at hl 1 rfl) ?_
          obtain ⟨v24, ev24, h25, hf⟩ := zq_rd_s hf
          refine zia C0 hP 10 wdM_10 ev24 h25 dX4_ofUnit_50 ?_
          refine lv_goto (tgt := 102) hx hb dX4_ofUnit_51 (by decide) ?_
          obtain ⟨rfl, rfl⟩ := zq_j2 hf
          exact hret _ _ _ _ rfl dX4_ofUnit_102 hP hD hS
      · have hf := it_t c7 hf
        refine lv_bipush (v := (-3)) hx hb dX4_ofUnit_34 (by decide) ?_
        obtain ⟨rfl, rfl⟩ := zq_j2 hf
        exact hret _ _ _ _ rfl dX4_ofUnit_36 hP hD hS
    · have hf := it_t c6 hf
      refine lv_bipush (v := (-2)) hx hb dX4_ofUnit_24 (by decide) ?_
      obtain ⟨rfl, rfl⟩ := zq_j2 hf
      exact hret _ _ _ _ rfl dX4_ofUnit_26 hP hD hS

def f_X4_slices_L31 (g : zS) (x1 : Int32) : Nat → Int32 → Int32 → Option (Int32)
  | 0, _, _ => none
  | q9 + 1, x2, x3 =>
  if 4 ≤ x3 then (
  some x2) else (
  if x1 < 0 then (
  zq_b1 (f_X4_slicesOf g x3) (fun r8 =>
  f_X4_slices_L31 g x1 q9 (x2 + r8) (x3 + 1))) else (
  if x1 = x3 then (
  zq_b1 (f_X4_slicesOf g x3) (fun r11 =>
  f_X4_slices_L31 g x1 q9 (x2 + r11) (x3 + 1))) else (
  f_X4_slices_L31 g x1 q9 (x2 + 0) (x3 + 1))))
def f_X4_slices (g : zS) (x1 : Int32) : Option (Int32) :=
  zq_b1 (f_X4_in (Int32.toInt64 x1) (-1) 3) (fun r2 =>
  if r2 = 0 then (
  some (-2)) else (
  if (g 1 0) = 0 then (
  some (-3)) else (
  zq_b1 (f_X4_slices_L31 g x1 100 0 0) (fun y13 =>
  some y13))))
set_option maxHeartbeats 4000000 in
set_option maxRecDepth 100000 in
theorem w_X4_slices_L31 {l : Launch} {p : Program} {e : Env} {s9 : State} {m9 : MethodId} {ag : Array Value} {below : List Frame} {meth : Method} {c : Code} {A : Nat → Prop} {Q : State → Prop} {D : va_G} {ad : Nat → Nat} {cy : Nat → ClassId} {g : zS} {u : zJ} {x1 : Int32} (C0 : zCx p s9 m9 ag c cX4_slices 4 RX4 D cy A)  {o2 : Int32} (e0 : ∀ (H : Heap) (locs : List Loc) (ls : Array Slot), va_P D vwCl (wdM ad cy g u) H → va_D A (wdM ad cy g u) → va_S A s9.heap H locs → lv_has ls 4 [(2, .int o2)] → W p l e { frames := 1, cells := 0, slots := 0, locals := 25 } s9 m9 ag below meth c H locs 0 0 Q (F0 m9 63 ls [])) : ∀ (q9 : Nat) (x2 : Int32) (x3 : Int32), f_X4_slices_L31 g x1 q9 x2 x3 = some o2 → ∀ (H : Heap) (locs : List Loc) (ls : Array Slot), va_P D vwCl (wdM ad cy g u) H → va_D A (wdM ad cy g u) → va_S A s9.heap H locs → lv_has ls 4 [(0, .ref (ad 0)), (1, .int x1), (2, .int x2), (3, .int x3)] → W p l e { frames := 1, cells := 0, slots := 0, locals := 25 } s9 m9 ag below meth c H locs 0 0 Q (F0 m9 31 ls []) := by
  obtain ⟨hx, hb, hml, hown, hts⟩ := id C0.1
  intro q9
  induction q9 with
  | zero =>
    intro x2 x3 hf
    rw [f_X4_slices_L31] at hf
    cases hf
  | succ q9 ih =>
    intro x2 x3 hf H locs ls hP hD hS hl
    rw [f_X4_slices_L31] at hf
    refine lv_iload_n hx hb dX4_slices_31 rfl (lv_at hl 3 rfl) ?_
    refine lv_iconst (v := 4) hx hb dX4_slices_32 (by decide) ?_
    refine lv_icmp_ge (tgt := 63) hx hb dX4_slices_33 (by decide) (fun c5 => ?_) (fun c5 => ?_)
    · have hf := it_t c5 hf
      obtain rfl := Option.some.inj hf
      exact e0 _ _ _ hP hD hS (lv_sub hl [2] rfl)
    · have hf := it_f c5 hf
      refine lv_iload_n hx hb dX4_slices_36 rfl (lv_at hl 2 rfl) ?_
      refine lv_iload_n hx hb dX4_slices_37 rfl (lv_at hl 1 rfl) ?_
      refine lv_if_lt (tgt := 46) hx hb dX4_slices_38 (by decide) (fun c6 => ?_) (fun c6 => ?_)
      · have hf := it_t c6 hf
        refine lv_aload_n hx hb dX4_slices_46 rfl (lv_at hl 0 rfl) ?_
        refine lv_iload_n hx hb dX4_slices_47 rfl (lv_at hl 3 rfl) ?_
        obtain ⟨r8, hc7, hf⟩ := zq_b1_s hf
        refine zVI (ws' := (wdM ad cy g u)) (rest := [.int x2]) C0 (fun _ h => h) zF.id (c_X4_slicesOf hc7) hP hD hS my_X4_slicesOf kl_X4_205 ⟨rfl, rfl⟩ ⟨Nat.le_of_ble_eq_true rfl, Nat.le_of_ble_eq_true rfl⟩ (q0 := 0) (ci := 4) rfl wdM_0 rfl hl.1 rfl (Nat.le_of_ble_eq_true rfl) dX4_slices_48 ⟨Nat.zero_le _, Nat.zero_le _⟩ (fun H locs hP hD hS => ?_)
        refine lv_goto (tgt := 55) hx hb dX4_slices_51 (by decide) ?_
        refine lv_iadd hx hb dX4_slices_55 ?_
        refine lv_istore_n (lv' := [(2, .int (x2 + r8)), (0, .ref (ad 0)), (1, .int x1), (3, .int x3)]) hx hb dX4_slices_56 rfl hl (by decide) rfl (fun ls hl => ?_)
        refine lv_iinc (v := (x3 + 1)) (lv' := [(3, .int (x3 + 1)), (2, .int (x2 + r8)), (0, .ref (ad 0)), (1, .int x1)]) hx hb dX4_slices_57 hl (k := 3) rfl rfl (by decide) rfl (fun ls hl => ?_)
        refine lv_goto (tgt := 31) hx hb dX4_slices_60 (by decide) ?_
        exact ih (x2 + r8) (x3 + 1) hf _ _ _ hP hD hS (lv_sub hl [2, 3, 1, 0] rfl)
      · have hf := it_f c6 hf
        refine lv_iload_n hx hb dX4_slices_41 rfl (lv_at hl 1 rfl) ?_
        refine lv_iload_n hx hb dX4_slices_42 rfl (lv_at hl 3 rfl) ?_
        refine lv_icmp_ne (tgt := 54) hx hb dX4_slices_43 (by decide) (fun c9 => ?_) (fun c9 => ?_)
        · have hf := it_f c9 hf
          refine lv_iconst (v := 0) hx hb dX4_slices_54 (by decide) ?_
          refine lv_iadd hx hb dX4_slices_55 ?_
          refine lv_istore_n (lv' := [(2, .int (x2 + 0)), (0, .ref (ad 0)), (1, .int x1), (3, .int x3)]) hx hb dX4_slices_56 rfl hl (by decide) rfl (fun ls hl => ?_)
          refine lv_iinc (v := (x3 + 1)) (lv' := [(3, .int (x3 + 1)), (2, .int (x2 + 0)), (0, .ref (ad 0)), (1, .int x1)]) hx hb dX4_slices_57 hl (k := 3) rfl rfl (by decide) rfl (fun ls hl => ?_)
          refine lv_goto (tgt := 31) hx hb dX4_slices_60 (by decide) ?_
          exact ih (x2 + 0) (x3 + 1) hf _ _ _ hP hD hS (lv_sub hl [2, 3, 1, 0] rfl)
        · have hf := it_t c9 hf
          refine lv_aload_n hx hb dX4_slices_46 rfl (lv_at hl 0 rfl) ?_
          refine lv_iload_n hx hb dX4_slices_47 rfl (lv_at hl 3 rfl) ?_
          obtain ⟨r11, hc10, hf⟩ := zq_b1_s hf
          refine zVI (ws' := (wdM ad cy g u)) (rest := [.int x2]) C0 (fun _ h => h) zF.id (c_X4_slicesOf hc10) hP hD hS my_X4_slicesOf kl_X4_205 ⟨rfl, rfl⟩ ⟨Nat.le_of_ble_eq_true rfl, Nat.le_of_ble_eq_true rfl⟩ (q0 := 0) (ci := 4) rfl wdM_0 rfl hl.1 rfl (Nat.le_of_ble_eq_true rfl) dX4_slices_48 ⟨Nat.zero_le _, Nat.zero_le _⟩ (fun H locs hP hD hS => ?_)
          refine lv_goto (tgt := 55) hx hb dX4_slices_51 (by decide) ?_
          refine lv_iadd hx hb dX4_slices_55 ?_
          refine lv_istore_n (lv' := [(2, .int (x2 + r11)), (0, .ref (ad 0)), (1, .int x1), (3, .int x3)]) hx hb dX4_slices_56 rfl hl (by decide) rfl (fun ls hl => ?_)
          refine lv_iinc (v := (x3 + 1)) (lv' := [(3, .int (x3 + 1)), (2, .int (x2 + r11)), (0, .ref (ad 0)), (1, .int x1)]) hx hb dX4_slices_57 hl (k := 3) rfl rfl (by decide) rfl (fun ls hl => ?_)
          refine lv_goto (tgt := 31) hx hb dX4_slices_60 (by decide) ?_
          exact ih (x2 + r11) (x3 + 1) hf _ _ _ hP hD hS (lv_sub hl [2, 3, 1, 0] rfl)
set_option maxHeartbeats 4000000 in
set_option maxRecDepth 100000 in
theorem c_X4_slices {l : Launch} {D : va_G} {ad : Nat → Nat} {cy : Nat → ClassId} {g : zS} {u : zJ} {x1 : Int32} {r0 : Int32} (hf : f_X4_slices g x1 = some r0) : zMI l yX4_slices (zW yX4_slices cX4_slices 4 (some .int)) { frames := 1, cells := 0, slots := 0, locals := 25 } D cy [.ref (ad 0), .int x1] (wdM ad cy g u) r0 (wdM ad cy g u) := by
  unfold f_X4_slices at hf
  refine zEI (ty := .int) (by decide) (Nat.le_of_ble_eq_true rfl) ?_
  intro p e s9 m9 below meth c A Q C0 hret ls hl hP hD
  have hl : lv_has ls 4 [(0, .ref (ad 0)), (1, .int x1)] := hl
  have hS : va_S A s9.heap s9.heap [] := va_S.rf
  obtain ⟨hx, hb, hml, hown, hts⟩ := id C0.1
  refine lv_iload_n hx hb dX4_slices_0 rfl (lv_at hl 1 rfl) ?_
  refine lv_i2l hx hb dX4_slices_1 rfl ?_
  refine lv_ldc2 hx hb hown (hts _ kc_X4_201) dX4_slices_2 ?_
  refine lv_ldc2 hx hb hown (hts _ kc_X4_203) dX4_slices_5 ?_
  obtain ⟨r2, hc1, hf⟩ := zq_b1_s hf
  refine zSI (ws' := (wdM ad cy g u)) (rest := []) C0 (fun _ h => h) zF.nil (c_X4_in hc1) hP hD hS my_X4_in kl_X4_87 ⟨rfl, rfl⟩ ⟨Nat.le_of_ble_eq_true rfl, Nat.le_of_ble_eq_true rfl⟩ rfl hl.1 rfl (Nat.le_of_ble_eq_true rfl) dX4_slices_8 ⟨Nat.zero_le _, Nat.zero_le _⟩ (fun H locs hP hD hS => ?_)
  refine lv_if_ne (tgt := 17) hx hb dX4_slices_11 (by decide) (fun c3 => ?_) (fun c3 => ?_)
  · have hf := it_f c3 hf
    refine lv_aload_n hx hb dX4_slices_17 rfl (lv_at hl 0 rfl) ?_
    refine gf_X4_84 C0 hP 0 wdM_0 rfl dX4_slices_18 ?_
    refine lv_if_ne (tgt := 27) hx hb dX4_slices_21 (by decide) (fun c4 => ?_) (fun c4 => ?_)
    · have hf := it_f c4 hf
      refine lv_iconst (v := 0) hx hb dX4_slices_27 (by decide) ?_
      refine lv_istore_n (lv' := [(2, .int 0), (0, .ref (ad 0)), (1, .int x1)]) hx hb dX4_slices_28 rfl hl (by decide) rfl (fun ls hl => ?_)
      refine lv_iconst (v := 0) hx hb dX4_slices_29 (by decide) ?_
      refine lv_istore_n (lv' := [(3, .int 0), (2, .int 0), (0, .ref (ad 0)), (1, .int x1)]) hx hb dX4_slices_30 rfl hl (by decide) rfl (fun ls hl => ?_)
      obtain ⟨y13, hL12, hf⟩ := zq_b1_s hf
      refine w_X4_slices_L31 C0 (fun H locs ls hP hD hS hl => ?_) 100 0 0 hL12 _ _ _ hP hD hS (lv_sub hl [2, 3, 1, 0] rfl)
      refine lv_iload_n hx hb dX4_slices_63 rfl (lv_at hl 0 rfl) ?_
      obtain rfl := Option.some.inj hf
      exact hret _ _ _ _ rfl dX4_slices_64 hP hD hS
    · have hf := it_t c4 hf
      refine lv_bipush (v := (-3)) hx hb dX4_slices_24 (by decide) ?_
      obtain rfl := Option.some.inj hf
      exact hret _ _ _ _ rfl dX4_slices_26 hP hD hS
  · have hf := it_t c3 hf
    refine lv_bipush (v := (-2)) hx hb dX4_slices_14 (by decide) ?_
    obtain rfl := Option.some.inj hf
    exact hret _ _ _ _ rfl dX4_slices_16 hP hD hS

def f_X4_greatest_L15 (g : zS) (x1 : Int32) (x3 : Int32) : Nat → Int32 → Int32 → Option (Int32)
  | 0, _, _ => none
  | q9 + 1, x4, x5 =>
  if (g 2 0) ≤ x5 then (
  some x4) else (
  zq_b1 (f_X4_light g x5) (fun r4 =>
  f_X4_greatest_L15 g x1 x3 q9 (x4 + ((((r4 * x1) / 15) >>> (x3 &&& 31)) &&& 1)) (x5 + 1)))
def f_X4_greatest_L4 (g : zS) (x1 : Int32) : Nat → Int32 → Int32 → Option (Int32)
  | 0, _, _ => none
  | q9 + 1, x2, x3 =>
  if 4 ≤ x3 then (
  some x2) else (
  zq_b1 (f_X4_greatest_L15 g x1 x3 100 0 0) (fun y6 =>
  if y6 ≤ x2 then (
  f_X4_greatest_L4 g x1 q9 x2 (x3 + 1)) else (
  f_X4_greatest_L4 g x1 q9 y6 (x3 + 1))))
def f_X4_greatest (g : zS) (x1 : Int32) : Option (Int32) :=
  zq_b1 (f_X4_greatest_L4 g x1 100 0 0) (fun y9 =>
  some y9)
set_option maxHeartbeats 4000000 in
set_option maxRecDepth 100000 in
theorem w_X4_greatest_L15 {l : Launch} {p : Program} {e : Env} {s9 : State} {m9 : MethodId} {ag : Array Value} {below : List Frame} {meth : Method} {c : Code} {A : Nat → Prop} {Q : State → Prop} {D : va_G} {ad : Nat → Nat} {cy : Nat → ClassId} {g : zS} {u : zJ} {x1 : Int32} {x3 : Int32} {x2 : Int32} (C0 : zCx p s9 m9 ag c cX4_greatest 6 RX4 D cy A)  {o4 : Int32} (e0 : ∀ (H : Heap) (locs : List Loc) (ls : Array Slot), va_P D vwCl (wdM ad cy g u) H → va_D A (wdM ad cy g u) → va_S A s9.heap H locs → lv_has ls 6 [(0, .ref (ad 0)), (1, .int x1), (2, .int x2), (3, .int x3), (4, .int o4)] → W p l e { frames := 2, cells := 0, slots := 0, locals := 43 } s9 m9 ag below meth c H locs 0 0 Q (F0 m9 50 ls [])) : ∀ (q9 : Nat) (x4 : Int32) (x5 : Int32), f_X4_greatest_L15 g x1 x3 q9 x4 x5 = some o4 → ∀ (H : Heap) (locs : List Loc) (ls : Array Slot), va_P D vwCl (wdM ad cy g u) H → va_D A (wdM ad cy g u) → va_S A s9.heap H locs → lv_has ls 6 [(0, .ref (ad 0)), (1, .int x1), (2, .int x2), (3, .int x3), (4, .int x4), (5, .int x5)] → W p l e { frames := 2, cells := 0, slots := 0, locals := 43 } s9 m9 ag below meth c H locs 0 0 Q (F0 m9 15 ls []) := by
  obtain ⟨hx, hb, hml, hown, hts⟩ := id C0.1
  intro q9
  induction q9 with
  | zero =>
    intro x4 x5 hf
    rw [f_X4_greatest_L15] at hf
    cases hf
  | succ q9 ih =>
    intro x4 x5 hf H locs ls hP hD hS hl
    rw [f_X4_greatest_L15] at hf
    refine lv_iload hx hb dX4_greatest_15 (lv_at hl 5 rfl) ?_
    refine lv_aload_n hx hb dX4_greatest_17 rfl (lv_at hl 0 rfl) ?_
    refine gf_X4_91 C0 hP 0 wdM_0 rfl dX4_greatest_18 ?_
    refine lv_icmp_ge (tgt := 50) hx hb dX4_greatest_21 (by decide) (fun c2 => ?_) (fun c2 => ?_)
    · have hf := it_t c2 hf
      obtain rfl := Option.some.inj hf
      exact e0 _ _ _ hP hD hS (lv_sub hl [0, 1, 2, 3, 4] rfl)
    · have hf := it_f c2 hf
      refine lv_iload hx hb dX4_greatest_24 (lv_at hl 4 rfl) ?_
      refine lv_aload_n hx hb dX4_greatest_26 rfl (lv_at hl 0 rfl) ?_
      refine lv_iload hx hb dX4_greatest_27 (lv_at hl 5 rfl) ?_
      obtain ⟨r4, hc3, hf⟩ := zq_b1_s hf
      refine zVI (ws' := (wdM ad cy g u)) (rest := [.int x4]) C0 (fun _ h => h) zF.id (c_X4_light hc3) hP hD hS my_X4_light kl_X4_153 ⟨rfl, rfl⟩ ⟨Nat.le_of_ble_eq_true rfl, Nat.le_of_ble_eq_true rfl⟩ (q0 := 0) (ci := 4) rfl wdM_0 rfl hl.1 rfl (Nat.le_of_ble_eq_true rfl) dX4_greatest_29 ⟨Nat.zero_le _, Nat.zero_le _⟩ (fun H locs hP hD hS => ?_)
      refine lv_iload_n hx hb dX4_greatest_32 rfl (lv_at hl 1 rfl) ?_
      refine lv_imul hx hb dX4_greatest_33 ?_
      refine lv_bipush (v := 15) hx hb dX4_greatest_34 (by decide) ?_
      refine lv_idiv hx hb dX4_greatest_36 (by decide) ?_
      refine lv_iload_n hx hb dX4_greatest_37 rfl (lv_at hl 3 rfl) ?_
      refine lv_ishr hx hb dX4_greatest_38 ?_
      refine lv_iconst (v := 1) hx hb dX4_greatest_39 (by decide) ?_
      refine lv_iand hx hb dX4_greatest_40 ?_
      refine lv_iadd hx hb dX4_greatest_41 ?_
      refine lv_istore (lv' := [(4, .int (x4 + ((((r4 * x1) / 15) >>> (x3 &&& 31)) &&& 1))), (0, .ref (ad 0)), (1, .int x1), (2, .int x2), (3, .int x3), (5, .int x5)]) hx hb dX4_greatest_42 hl (by decide) rfl (fun ls hl => ?_)
      refine lv_iinc (v := (x5 + 1)) (lv' := [(5, .int (x5 + 1)), (4, .int (x4 + ((((r4 * x1) / 15) >>> (x3 &&& 31)) &&& 1))), (0, .ref (ad 0)), (1, .int x1), (2, .int x2), (3, .int x3)]) hx hb dX4_greatest_44 hl (k := 5) rfl rfl (by decide) rfl (fun ls hl => ?_)
      refine lv_goto (tgt := 15) hx hb dX4_greatest_47 (by decide) ?_
      exact ih (x4 + ((((r4 * x1) / 15) >>> (x3 &&& 31)) &&& 1)) (x5 + 1) hf _ _ _ hP hD hS (lv_sub hl [2, 3, 4, 5, 1, 0] rfl)
set_option maxHeartbeats 4000000 in
set_option maxRecDepth 100000 in
theorem w_X4_greatest_L4 {l : Launch} {p : Program} {e : Env} {s9 : State} {m9 : MethodId} {ag : Array Value} {below : List Frame} {meth : Method} {c : Code} {A : Nat → Prop} {Q : State → Prop} {D : va_G} {ad : Nat → Nat} {cy : Nat → ClassId} {g : zS} {u : zJ} {x1 : Int32} (C0 : zCx p s9 m9 ag c cX4_greatest 6 RX4 D cy A)  {o2 : Int32} (e0 : ∀ (H : Heap) (locs : List Loc) (ls : Array Slot), va_P D vwCl (wdM ad cy g u) H → va_D A (wdM ad cy g u) → va_S A s9.heap H locs → lv_has ls 6 [(2, .int o2)] → W p l e { frames := 2, cells := 0, slots := 0, locals := 43 } s9 m9 ag below meth c H locs 0 0 Q (F0 m9 69 ls [])) : ∀ (q9 : Nat) (x2 : Int32) (x3 : Int32), f_X4_greatest_L4 g x1 q9 x2 x3 = some o2 → ∀ (H : Heap) (locs : List Loc) (ls : Array Slot), va_P D vwCl (wdM ad cy g u) H → va_D A (wdM ad cy g u) → va_S A s9.heap H locs → lv_has ls 6 [(0, .ref (ad 0)), (1, .int x1), (2, .int x2), (3, .int x3)] → W p l e { frames := 2, cells := 0, slots := 0, locals := 43 } s9 m9 ag below meth c H locs 0 0 Q (F0 m9 4 ls []) := by
  obtain ⟨hx, hb, hml, hown, hts⟩ := id C0.1
  intro q9
  induction q9 with
  | zero =>
    intro x2 x3 hf
    rw [f_X4_greatest_L4] at hf
    cases hf
  | succ q9 ih =>
    intro x2 x3 hf H locs ls hP hD hS hl
    rw [f_X4_greatest_L4] at hf
    refine lv_iload_n hx hb dX4_greatest_4 rfl (lv_at hl 3 rfl) ?_
    refine lv_iconst (v := 4) hx hb dX4_greatest_5 (by decide) ?_
    refine lv_icmp_ge (tgt := 69) hx hb dX4_greatest_6 (by decide) (fun c1 => ?_) (fun c1 => ?_)
    · have hf := it_t c1 hf
      obtain rfl := Option.some.inj hf
      exact e0 _ _ _ hP hD hS (lv_sub hl [2] rfl)
    · have hf := it_f c1 hf
      refine lv_iconst (v := 0) hx hb dX4_greatest_9 (by decide) ?_
      refine lv_istore (lv' := [(4, .int 0), (0, .ref (ad 0)), (1, .int x1), (2, .int x2), (3, .int x3)]) hx hb dX4_greatest_10 hl (by decide) rfl (fun ls hl => ?_)
      refine lv_iconst (v := 0) hx hb dX4_greatest_12 (by decide) ?_
      refine lv_istore (lv' := [(5, .int 0), (4, .int 0), (0, .ref (ad 0)), (1, .int x1), (2, .int x2), (3, .int x3)]) hx hb dX4_greatest_13 hl (by decide) rfl (fun ls hl => ?_)
      obtain ⟨y6, hL5, hf⟩ := zq_b1_s hf
      refine w_X4_greatest_L15 C0 (fun H locs ls hP hD hS hl => ?_) 100 0 0 hL5 _ _ _ hP hD hS (lv_sub hl [2, 3, 4, 5, 1, 0] rfl)
      refine lv_iload hx hb dX4_greatest_50 (lv_at hl 4 rfl) ?_
      refine lv_iload_n hx hb dX4_greatest_52 rfl (lv_at hl 2 rfl) ?_
      refine lv_icmp_le (tgt := 61) hx hb dX4_greatest_53 (by decide) (fun c7 => ?_) (fun c7 => ?_)
      · have hf := it_t c7 hf
        refine lv_iload_n hx hb dX4_greatest_61 rfl (lv_at hl 2 rfl) ?_
        refine lv_istore_n (lv' := [(2, .int x2), (0, .ref (ad 0)), (1, .int x1), (3, .int x3), (4, .int y6)]) hx hb dX4_greatest_62 rfl hl (by decide) rfl (fun ls hl => ?_)
        refine lv_iinc (v := (x3 + 1)) (lv' := [(3, .int (x3 + 1)), (2, .int x2), (0, .ref (ad 0)), (1, .int x1), (4, .int y6)]) hx hb dX4_greatest_63 hl (k := 3) rfl rfl (by decide) rfl (fun ls hl => ?_)
        refine lv_goto (tgt := 4) hx hb dX4_greatest_66 (by decide) ?_
        exact ih x2 (x3 + 1) hf _ _ _ hP hD hS (lv_sub hl [2, 3, 1, 0] rfl)
      · have hf := it_f c7 hf
        refine lv_iload hx hb dX4_greatest_56 (lv_at hl 4 rfl) ?_
        refine lv_goto (tgt := 62) hx hb dX4_greatest_58 (by decide) ?_
        refine lv_istore_n (lv' := [(2, .int y6), (0, .ref (ad 0)), (1, .int x1), (3, .int x3), (4, .int y6)]) hx hb dX4_greatest_62 rfl hl (by decide) rfl (fun ls hl => ?_)
        refine lv_iinc (v := (x3 + 1)) (lv' := [(3, .int (x3 + 1)), (2, .int y6), (0, .ref (ad 0)), (1, .int x1), (4, .int y6)]) hx hb dX4_greatest_63 hl (k := 3) rfl rfl (by decide) rfl (fun ls hl => ?_)
        refine lv_goto (tgt := 4) hx hb dX4_greatest_66 (by decide) ?_
        exact ih y6 (x3 + 1) hf _ _ _ hP hD hS (lv_sub hl [2, 3, 1, 0] rfl)
set_option maxHeartbeats 4000000 in
set_option maxRecDepth 100000 in
theorem c_X4_greatest {l : Launch} {D : va_G} {ad : Nat → Nat} {cy : Nat → ClassId} {g : zS} {u : zJ} {x1 : Int32} {r0 : Int32} (hf : f_X4_greatest g x1 = some r0) : zMI l yX4_greatest (zW yX4_greatest cX4_greatest 6 (some .int)) { frames := 2, cells := 0, slots := 0, locals := 43 } D cy [.ref (ad 0), .int x1] (wdM ad cy g u) r0 (wdM ad cy g u) := by
  unfold f_X4_greatest at hf
  refine zEI (ty := .int) (by decide) (Nat.le_of_ble_eq_true rfl) ?_
  intro p e s9 m9 below meth c A Q C0 hret ls hl hP hD
  have hl : lv_has ls 6 [(0, .ref (ad 0)), (1, .int x1)] := hl
  have hS : va_S A s9.heap s9.heap [] := va_S.rf
  obtain ⟨hx, hb, hml, hown, hts⟩ := id C0.1
  refine lv_iconst (v := 0) hx hb dX4_greatest_0 (by decide) ?_
  refine lv_istore_n (lv' := [(2, .int 0), (0, .ref (ad 0)), (1, .int x1)]) hx hb dX4_greatest_1 rfl hl (by decide) rfl (fun ls hl => ?_)
  refine lv_iconst (v := 0) hx hb dX4_greatest_2 (by decide) ?_
  refine lv_istore_n (lv' := [(3, .int 0), (2, .int 0), (0, .ref (ad 0)), (1, .int x1)]) hx hb dX4_greatest_3 rfl hl (by decide) rfl (fun ls hl => ?_)
  obtain ⟨y9, hL8, hf⟩ := zq_b1_s hf
  refine w_X4_greatest_L4 C0 (fun H locs ls hP hD hS hl => ?_) 100 0 0 hL8 _ _ _ hP hD hS (lv_sub hl [2, 3, 1, 0] rfl)
  refine lv_iload_n hx hb dX4_greatest_69 rfl (lv_at hl 0 rfl) ?_
  obtain rfl := Option.some.inj hf
  exact hret _ _ _ _ rfl dX4_greatest_70 hP hD hS

def f_X4_bears_L29 (g : zS) (x1 : Int32) : Nat → Int32 → Int32 → Option (Int32)
  | 0, _, _ => none
  | q9 + 1, x2, x3 =>
  if 15 < x3 then (
  some x2) else (
  zq_b1 (f_X4_greatest g x3) (fun r7 =>
  if x1 < r7 then (
  f_X4_bears_L29 g x1 q9 x2 (x3 + 1)) else (
  f_X4_bears_L29 g x1 q9 x3 (x3 + 1))))
def f_X4_bears (g : zS) (x1 : Int32) : Option (Int32) :=
  zq_b1 (f_X4_in (Int32.toInt64 x1) 0 16) (fun r2 =>
  if r2 = 0 then (
  some (-2)) else (
  if (g 1 0) = 0 then (
  some (-3)) else (
  zq_b1 (f_X4_bears_L29 g x1 100 0 1) (fun y10 =>
  some y10))))
set_option maxHeartbeats 4000000 in
set_option maxRecDepth 100000 in
theorem w_X4_bears_L29 {l : Launch} {p : Program} {e : Env} {s9 : State} {m9 : MethodId} {ag : Array Value} {below : List Frame} {meth : Method} {c : Code} {A : Nat → Prop} {Q : State → Prop} {D : va_G} {ad : Nat → Nat} {cy : Nat → ClassId} {g : zS} {u : zJ} {x1 : Int32} (C0 : zCx p s9 m9 ag c cX4_bears 4 RX4 D cy A)  {o2 : Int32} (e0 : ∀ (H : Heap) (locs : List Loc) (ls : Array Slot), va_P D vwCl (wdM ad cy g u) H → va_D A (wdM ad cy g u) → va_S A s9.heap H locs → lv_has ls 4 [(2, .int o2)] → W p l e { frames := 3, cells := 0, slots := 0, locals := 68 } s9 m9 ag below meth c H locs 0 0 Q (F0 m9 56 ls [])) : ∀ (q9 : Nat) (x2 : Int32) (x3 : Int32), f_X4_bears_L29 g x1 q9 x2 x3 = some o2 → ∀ (H : Heap) (locs : List Loc) (ls : Array Slot), va_P D vwCl (wdM ad cy g u) H → va_D A (wdM ad cy g u) → va_S A s9.heap H locs → lv_has ls 4 [(0, .ref (ad 0)), (1, .int x1), (2, .int x2), (3, .int x3)] → W p l e { frames := 3, cells := 0, slots := 0, locals := 68 } s9 m9 ag below meth c H locs 0 0 Q (F0 m9 29 ls []) := by
  obtain ⟨hx, hb, hml, hown, hts⟩ := id C0.1
  intro q9
  induction q9 with
  | zero =>
    intro x2 x3 hf
    rw [f_X4_bears_L29] at hf
    cases hf
  | succ q9 ih =>
    intro x2 x3 hf H locs ls hP hD hS hl
    rw [f_X4_bears_L29] at hf
    refine lv_iload_n hx hb dX4_bears_29 rfl (lv_at hl 3 rfl) ?_
    refine lv_bipush (v := 15) hx hb dX4_bears_30 (by decide) ?_
    refine lv_icmp_gt (tgt := 56) hx hb dX4_bears_32 (by decide) (fun c5 => ?_) (fun c5 => ?_)
    · have hf := it_t c5 hf
      obtain rfl := Option.some.inj hf
      exact e0 _ _ _ hP hD hS (lv_sub hl [2] rfl)
    · have hf := it_f c5 hf
      refine lv_aload_n hx hb dX4_bears_35 rfl (lv_at hl 0 rfl) ?_
      refine lv_iload_n hx hb dX4_bears_36 rfl (lv_at hl 3 rfl) ?_
      obtain ⟨r7, hc6, hf⟩ := zq_b1_s hf
      refine zVI (ws' := (wdM ad cy g u)) (rest := []) C0 (fun _ h => h) zF.id (c_X4_greatest hc6) hP hD hS my_X4_greatest kl_X4_210 ⟨rfl, rfl⟩ ⟨Nat.le_of_ble_eq_true rfl, Nat.le_of_ble_eq_true rfl⟩ (q0 := 0) (ci := 4) rfl wdM_0 rfl hl.1 rfl (Nat.le_of_ble_eq_true rfl) dX4_bears_37 ⟨Nat.zero_le _, Nat.zero_le _⟩ (fun H locs hP hD hS => ?_)
      refine lv_iload_n hx hb dX4_bears_40 rfl (lv_at hl 1 rfl) ?_
      refine lv_icmp_gt (tgt := 48) hx hb dX4_bears_41 (by decide) (fun c8 => ?_) (fun c8 => ?_)
      · have hf := it_t c8 hf
        refine lv_iload_n hx hb dX4_bears_48 rfl (lv_at hl 2 rfl) ?_
        refine lv_istore_n (lv' := [(2, .int x2), (0, .ref (ad 0)), (1, .int x1), (3, .int x3)]) hx hb dX4_bears_49 rfl hl (by decide) rfl (fun ls hl => ?_)
        refine lv_iinc (v := (x3 + 1)) (lv' := [(3, .int (x3 + 1)), (2, .int x2), (0, .ref (ad 0)), (1, .int x1)]) hx hb dX4_bears_50 hl (k := 3) rfl rfl (by decide) rfl (fun ls hl => ?_)
        refine lv_goto (tgt := 29) hx hb dX4_bears_53 (by decide) ?_
        exact ih x2 (x3 + 1) hf _ _ _ hP hD hS (lv_sub hl [2, 3, 1, 0] rfl)
      · have hf := it_f c8 hf
        refine lv_iload_n hx hb dX4_bears_44 rfl (lv_at hl 3 rfl) ?_
        refine lv_goto (tgt := 49) hx hb dX4_bears_45 (by decide) ?_
        refine lv_istore_n (lv' := [(2, .int x3), (0, .ref (ad 0)), (1, .int x1), (3, .int x3)]) hx hb dX4_bears_49 rfl hl (by decide) rfl (fun ls hl => ?_)
        refine lv_iinc (v := (x3 + 1)) (lv' := [(3, .int (x3 + 1)), (2, .int x3), (0, .ref (ad 0)), (1, .int x1)]) hx hb dX4_bears_50 hl (k := 3) rfl rfl (by decide) rfl (fun ls hl => ?_)
        refine lv_goto (tgt := 29) hx hb dX4_bears_53 (by decide) ?_
        exact ih x3 (x3 + 1) hf _ _ _ hP hD hS (lv_sub hl [2, 3, 1, 0] rfl)
set_option maxHeartbeats 4000000 in
set_option maxRecDepth 100000 in
theorem c_X4_bears {l : Launch} {D : va_G} {ad : Nat → Nat} {cy : Nat → ClassId} {g : zS} {u : zJ} {x1 : Int32} {r0 : Int32} (hf : f_X4_bears g x1 = some r0) : zMI l yX4_bears (zW yX4_bears cX4_bears 4 (some .int)) { frames := 3, cells := 0, slots := 0, locals := 68 } D cy [.ref (ad 0), .int x1] (wdM ad cy g u) r0 (wdM ad cy g u) := by
  unfold f_X4_bears at hf
  refine zEI (ty := .int) (by decide) (Nat.le_of_ble_eq_true rfl) ?_
  intro p e s9 m9 below meth c A Q C0 hret ls hl hP hD
  have hl : lv_has ls 4 [(0, .ref (ad 0)), (1, .int x1)] := hl
  have hS : va_S A s9.heap s9.heap [] := va_S.rf
  obtain ⟨hx, hb, hml, hown, hts⟩ := id C0.1
  refine lv_iload_n hx hb dX4_bears_0 rfl (lv_at hl 1 rfl) ?_
  refine lv_i2l hx hb dX4_bears_1 rfl ?_
  refine lv_lconst (v := 0) hx hb dX4_bears_2 (by decide) ?_
  refine lv_ldc2 hx hb hown (hts _ kc_X4_208) dX4_bears_3 ?_
  obtain ⟨r2, hc1, hf⟩ := zq_b1_s hf
  refine zSI (ws' := (wdM ad cy g u)) (rest := []) C0 (fun _ h => h) zF.nil (c_X4_in hc1) hP hD hS my_X4_in kl_X4_87 ⟨rfl, rfl⟩ ⟨Nat.le_of_ble_eq_true rfl, Nat.le_of_ble_eq_true rfl⟩ rfl hl.1 rfl (Nat.le_of_ble_eq_true rfl) dX4_bears_6 ⟨Nat.zero_le _, Nat.zero_le _⟩ (fun H locs hP hD hS => ?_)
  refine lv_if_ne (tgt := 15) hx hb dX4_bears_9 (by decide) (fun c3 => ?_) (fun c3 => ?_)
  · have hf := it_f c3 hf
    refine lv_aload_n hx hb dX4_bears_15 rfl (lv_at hl 0 rfl) ?_
    refine gf_X4_84 C0 hP 0 wdM_0 rfl dX4_bears_16 ?_
    refine lv_if_ne (tgt := 25) hx hb dX4_bears_19 (by decide) (fun c4 => ?_) (fun c4 => ?_)
    · have hf := it_f c4 hf
      refine lv_iconst (v := 0) hx hb dX4_bears_25 (by decide) ?_
      refine lv_istore_n (lv' := [(2, .int 0), (0, .ref (ad 0)), (1, .int x1)]) hx hb dX4_bears_26 rfl hl (by decide) rfl (fun ls hl => ?_)
      refine lv_iconst (v := 1) hx hb dX4_bears_27 (by decide) ?_
      refine lv_istore_n (lv' := [(3, .int 1), (2, .int 0), (0, .ref (ad 0)), (1, .int x1)]) hx hb dX4_bears_28 rfl hl (by decide) rfl (fun ls hl => ?_)
      obtain ⟨y10, hL9, hf⟩ := zq_b1_s hf
      refine w_X4_bears_L29 C0 (fun H locs ls hP hD hS hl => ?_) 100 0 1 hL9 _ _ _ hP hD hS (lv_sub hl [2, 3, 1, 0] rfl)
      refine lv_iload_n hx hb dX4_bears_56 rfl (lv_at hl 0 rfl) ?_
      obtain rfl := Option.some.inj hf
      exact hret _ _ _ _ rfl dX4_bears_57 hP hD hS
    · have hf := it_t c4 hf
      refine lv_bipush (v := (-3)) hx hb dX4_bears_22 (by decide) ?_
      obtain rfl := Option.some.inj hf
      exact hret _ _ _ _ rfl dX4_bears_24 hP hD hS
  · have hf := it_t c3 hf
    refine lv_bipush (v := (-2)) hx hb dX4_bears_12 (by decide) ?_
    obtain rfl := Option.some.inj hf
    exact hret _ _ _ _ rfl dX4_bears_14 hP hD hS

def f_X4_darkBy (g : zS) (x1 : Int32) : Option (Int32 × zS) :=
  zq_lt (va_up g 3 (fun _ => x1)) (fun g1 =>
  zq_b2 (f_X4_darkOfAll g1) (fun r3 g4 =>
  zq_lt (va_up g4 3 (fun _ => (g 3 0))) (fun g5 =>
  some (r3, g5))))
set_option maxHeartbeats 4000000 in
set_option maxRecDepth 100000 in
theorem c_X4_darkBy {l : Launch} {D : va_G} {ad : Nat → Nat} {cy : Nat → ClassId} {g : zS} {u : zJ} {x1 : Int32} {r0 : Int32} {g' : zS} (hf : f_X4_darkBy g x1 = some (r0, g')) : zMI l yX4_darkBy (zW yX4_darkBy cX4_darkBy 4 (some .int)) { frames := 5, cells := 0, slots := 0, locals := 111 } D cy [.ref (ad 0), .int x1] (wdM ad cy g u) r0 (wdM ad cy g' u) := by
  unfold f_X4_darkBy at hf
  refine zEI (ty := .int) (by decide) (Nat.le_of_ble_eq_true rfl) ?_
  intro p e s9 m9 below meth c A Q C0 hret ls hl hP hD
  have hl : lv_has ls 4 [(0, .ref (ad 0)), (1, .int x1)] := hl
  have hS : va_S A s9.heap s9.heap [] := va_S.rf
  obtain ⟨hx, hb, hml, hown, hts⟩ := id C0.1
  refine lv_aload_n hx hb dX4_darkBy_0 rfl (lv_at hl 0 rfl) ?_
  refine gf_X4_144 C0 hP 0 wdM_0 rfl dX4_darkBy_1 ?_
  refine lv_istore_n (lv' := [(2, .int (g 3 0)), (0, .ref (ad 0)), (1, .int x1)]) hx hb dX4_darkBy_4 rfl hl (by decide) rfl (fun ls hl => ?_)
  refine lv_aload_n hx hb dX4_darkBy_5 rfl (lv_at hl 1 rfl) ?_
  refine lv_iload_n hx hb dX4_darkBy_6 rfl (lv_at hl 2 rfl) ?_
  obtain ⟨g1, eg1, hf⟩ := zq_lt_s hf
  refine pf_X4_144 (ws' := (wdM ad cy g1 u)) C0 hP hD hS 0 wdM_0 (Nat.le_of_ble_eq_true rfl) (by rw [eg1]; rfl) dX4_darkBy_7 (fun H locs hP hD hS => ?_)
  refine lv_aload_n hx hb dX4_darkBy_10 rfl (lv_at hl 1 rfl) ?_
  obtain ⟨r3, g4, hc2, hf⟩ := zq_b2_s hf
  refine zVI (ws' := (wdM ad cy g4 u)) (rest := []) C0 (fun _ h => h) zF.id (c_X4_darkOfAll hc2) hP hD hS my_X4_darkOfAll kl_X4_213 ⟨rfl, rfl⟩ ⟨Nat.le_of_ble_eq_true rfl, Nat.le_of_ble_eq_true rfl⟩ (q0 := 0) (ci := 4) rfl wdM_0 rfl hl.1 rfl (Nat.le_of_ble_eq_true rfl) dX4_darkBy_11 ⟨Nat.zero_le _, Nat.zero_le _⟩ (fun H locs hP hD hS => ?_)
  refine lv_istore_n (lv' := [(3, .int r3), (2, .int (g 3 0)), (0, .ref (ad 0)), (1, .int x1)]) hx hb dX4_darkBy_14 rfl hl (by decide) rfl (fun ls hl => ?_)
  refine lv_aload_n hx hb dX4_darkBy_15 rfl (lv_at hl 2 rfl) ?_
  refine lv_iload_n hx hb dX4_darkBy_16 rfl (lv_at hl 1 rfl) ?_
  obtain ⟨g5, eg5, hf⟩ := zq_lt_s hf
  refine pf_X4_144 (ws' := (wdM ad cy g5 u)) C0 hP hD hS 0 wdM_0 (Nat.le_of_ble_eq_true rfl) (by rw [eg5]; rfl) dX4_darkBy_17 (fun H locs hP hD hS => ?_)
  refine lv_iload_n hx hb dX4_darkBy_20 rfl (lv_at hl 0 rfl) ?_
  obtain ⟨rfl, rfl⟩ := zq_j2 hf
  exact hret _ _ _ _ rfl dX4_darkBy_21 hP hD hS

def f_X4_steadiest_L29  : Nat → Int32 → Int32 → zS → Option (Int32 × zS)
  | 0, _, _, _ => none
  | q9 + 1, x2, x3, g =>
  if 8 < x3 then (
  some (x2, g)) else (
  zq_b2 (f_X4_darkBy g x3) (fun r7 g8 =>
  zq_b2 (f_X4_darkBy g8 x2) (fun r10 g11 =>
  if r10 ≤ r7 then (
  f_X4_steadiest_L29 q9 x2 (x3 + 1) g11) else (
  f_X4_steadiest_L29 q9 x3 (x3 + 1) g11))))
def f_X4_steadiest (g : zS) (x1 : Int32) : Option (Int32 × zS) :=
  zq_b1 (f_X4_in (Int32.toInt64 x1) 0 2) (fun r2 =>
  if r2 = 0 then (
  some ((-2), g)) else (
  if (g 1 0) = 0 then (
  some ((-3), g)) else (
  zq_b2 (f_X4_steadiest_L29 100 1 2 g) (fun y14 g15 =>
  if x1 = 0 then (
  some (y14, g15)) else (
  if x1 = 1 then (
  zq_b2 (f_X4_darkBy g15 y14) (fun r22 g23 =>
  some (r22, g23))) else (
  zq_b2 (f_X4_darkBy g15 (g15 3 0)) (fun r19 g20 =>
  some (r19, g20))))))))
set_option maxHeartbeats 4000000 in
set_option maxRecDepth 100000 in
theorem w_X4_steadiest_L29 {l : Launch} {p : Program} {e : Env} {s9 : State} {m9 : MethodId} {ag : Array Value} {below : List Frame} {meth : Method} {c : Code} {A : Nat → Prop} {Q : State → Prop} {D : va_G} {ad : Nat → Nat} {cy : Nat → ClassId} {u : zJ} {x1 : Int32} (C0 : zCx p s9 m9 ag c cX4_steadiest 4 RX4 D cy A)  {o2 : Int32} {go : zS} (e0 : ∀ (H : Heap) (locs : List Loc) (ls : Array Slot), va_P D vwCl (wdM ad cy go u) H → va_D A (wdM ad cy go u) → va_S A s9.heap H locs → lv_has ls 4 [(0, .ref (ad 0)), (1, .int x1), (2, .int o2)] → W p l e { frames := 6, cells := 0, slots := 0, locals := 134 } s9 m9 ag below meth c H locs 0 0 Q (F0 m9 60 ls [])) : ∀ (q9 : Nat) (x2 : Int32) (x3 : Int32) (g : zS), f_X4_steadiest_L29 q9 x2 x3 g = some (o2, go) → ∀ (H : Heap) (locs : List Loc) (ls : Array Slot), va_P D vwCl (wdM ad cy g u) H → va_D A (wdM ad cy g u) → va_S A s9.heap H locs → lv_has ls 4 [(0, .ref (ad 0)), (1, .int x1), (2, .int x2), (3, .int x3)] → W p l e { frames := 6, cells := 0, slots := 0, locals := 134 } s9 m9 ag below meth c H locs 0 0 Q (F0 m9 29 ls []) := by
  obtain ⟨hx, hb, hml, hown, hts⟩ := id C0.1
  intro q9
  induction q9 with
  | zero =>
    intro x2 x3 g hf
    rw [f_X4_steadiest_L29] at hf
    cases hf
  | succ q9 ih =>
    intro x2 x3 g hf H locs ls hP hD hS hl
    rw [f_X4_steadiest_L29] at hf
    refine lv_iload_n hx hb dX4_steadiest_29 rfl (lv_at hl 3 rfl) ?_
    refine lv_bipush (v := 8) hx hb dX4_steadiest_30 (by decide) ?_
    refine lv_icmp_gt (tgt := 60) hx hb dX4_steadiest_32 (by decide) (fun c5 => ?_) (fun c5 => ?_)
    · have hf := it_t c5 hf
      obtain ⟨rfl, rfl⟩ := zq_j2 hf
      exact e0 _ _ _ hP hD hS (lv_sub hl [0, 1, 2] rfl)
    · have hf := it_f c5 hf
      refine lv_aload_n hx hb dX4_steadiest_35 rfl (lv_at hl 0 rfl) ?_
      refine lv_iload_n hx hb dX4_steadiest_36 rfl (lv_at hl 3 rfl) ?_
      obtain ⟨r7, g8, hc6, hf⟩ := zq_b2_s hf
      refine zVI (ws' := (wdM ad cy g8 u)) (rest := []) C0 (fun _ h => h) zF.id (c_X4_darkBy hc6) hP hD hS my_X4_darkBy kl_X4_217 ⟨rfl, rfl⟩ ⟨Nat.le_of_ble_eq_true rfl, Nat.le_of_ble_eq_true rfl⟩ (q0 := 0) (ci := 4) rfl wdM_0 rfl hl.1 rfl (Nat.le_of_ble_eq_true rfl) dX4_steadiest_37 ⟨Nat.zero_le _, Nat.zero_le _⟩ (fun H locs hP hD hS => ?_)
      refine lv_aload_n hx hb dX4_steadiest_40 rfl (lv_at hl 0 rfl) ?_
      refine lv_iload_n hx hb dX4_steadiest_41 rfl (lv_at hl 2 rfl) ?_
      obtain ⟨r10, g11, hc9, hf⟩ := zq_b2_s hf
      refine zVI (ws' := (wdM ad cy g11 u)) (rest := [.int r7]) C0 (fun _ h => h) zF.id (c_X4_darkBy hc9) hP hD hS my_X4_darkBy kl_X4_217 ⟨rfl, rfl⟩ ⟨Nat.le_of_ble_eq_true rfl, Nat.le_of_ble_eq_true rfl⟩ (q0 := 0) (ci := 4) rfl wdM_0 rfl hl.1 rfl (Nat.le_of_ble_eq_true rfl) dX4_steadiest_42 ⟨Nat.zero_le _, Nat.zero_le _⟩ (fun H locs hP hD hS => ?_)
      refine lv_icmp_ge (tgt := 52) hx hb dX4_steadiest_45 (by decide) (fun c12 => ?_) (fun c12 => ?_)
      · have hf := it_t c12 hf
        refine lv_iload_n hx hb dX4_steadiest_52 rfl (lv_at hl 2 rfl) ?_
        refine lv_istore_n (lv' := [(2, .int x2), (0, .ref (ad 0)), (1, .int x1), (3, .int x3)]) hx hb dX4_steadiest_53 rfl hl (by decide) rfl (fun ls hl => ?_)
        refine lv_iinc (v := (x3 + 1)) (lv' := [(3, .int (x3 + 1)), (2, .int x2), (0, .ref (ad 0)), (1, .int x1)]) hx hb dX4_steadiest_54 hl (k := 3) rfl rfl (by decide) rfl (fun ls hl => ?_)
        refine lv_goto (tgt := 29) hx hb dX4_steadiest_57 (by decide) ?_
        exact ih x2 (x3 + 1) g11 hf _ _ _ hP hD hS (lv_sub hl [2, 3, 1, 0] rfl)
      · have hf := it_f c12 hf
        refine lv_iload_n hx hb dX4_steadiest_48 rfl (lv_at hl 3 rfl) ?_
        refine lv_goto (tgt := 53) hx hb dX4_steadiest_49 (by decide) ?_
        refine lv_istore_n (lv' := [(2, .int x3), (0, .ref (ad 0)), (1, .int x1), (3, .int x3)]) hx hb dX4_steadiest_53 rfl hl (by decide) rfl (fun ls hl => ?_)
        refine lv_iinc (v := (x3 + 1)) (lv' := [(3, .int (x3 + 1)), (2, .int x3), (0, .ref (ad 0)), (1, .int x1)]) hx hb dX4_steadiest_54 hl (k := 3) rfl rfl (by decide) rfl (fun ls hl => ?_)
        refine lv_goto (tgt := 29) hx hb dX4_steadiest_57 (by decide) ?_
        exact ih x3 (x3 + 1) g11 hf _ _ _ hP hD hS (lv_sub hl [2, 3, 1, 0] rfl)
set_option maxHeartbeats 4000000 in
set_option maxRecDepth 100000 in
theorem c_X4_steadiest {l : Launch} {D : va_G} {ad : Nat → Nat} {cy : Nat → ClassId} {g : zS} {u : zJ} {x1 : Int32} {r0 : Int32} {g' : zS} (hf : f_X4_steadiest g x1 = some (r0, g')) : zMI l yX4_steadiest (zW yX4_steadiest cX4_steadiest 4 (some .int)) { frames := 6, cells := 0, slots := 0, locals := 134 } D cy [.ref (ad 0), .int x1] (wdM ad cy g u) r0 (wdM ad cy g' u) := by
  unfold f_X4_steadiest at hf
  refine zEI (ty := .int) (by decide) (Nat.le_of_ble_eq_true rfl) ?_
  intro p e s9 m9 below meth c A Q C0 hret ls hl hP hD
  have hl : lv_has ls 4 [(0, .ref (ad 0)), (1, .int x1)] := hl
  have hS : va_S A s9.heap s9.heap [] := va_S.rf
  obtain ⟨hx, hb, hml, hown, hts⟩ := id C0.1
  refine lv_iload_n hx hb dX4_steadiest_0 rfl (lv_at hl 1 rfl) ?_
  refine lv_i2l hx hb dX4_steadiest_1 rfl ?_
  refine lv_lconst (v := 0) hx hb dX4_steadiest_2 (by decide) ?_
  refine lv_ldc2 hx hb hown (hts _ kc_X4_135) dX4_steadiest_3 ?_
  obtain ⟨r2, hc1, hf⟩ := zq_b1_s hf
  refine zSI (ws' := (wdM ad cy g u)) (rest := []) C0 (fun _ h => h) zF.nil (c_X4_in hc1) hP hD hS my_X4_in kl_X4_87 ⟨rfl, rfl⟩ ⟨Nat.le_of_ble_eq_true rfl, Nat.le_of_ble_eq_true rfl⟩ rfl hl.1 rfl (Nat.le_of_ble_eq_true rfl) dX4_steadiest_6 ⟨Nat.zero_le _, Nat.zero_le _⟩ (fun H locs hP hD hS => ?_)
  refine lv_if_ne (tgt := 15) hx hb dX4_steadiest_9 (by decide) (fun c3 => ?_) (fun c3 => ?_)
  · have hf := it_f c3 hf
    refine lv_aload_n hx hb dX4_steadiest_15 rfl (lv_at hl 0 rfl) ?_
    refine gf_X4_84 C0 hP 0 wdM_0 rfl dX4_steadiest_16 ?_
    refine lv_if_ne (tgt := 25) hx hb dX4_steadiest_19 (by decide) (fun c4 => ?_) (fun c4 => ?_)
    · have hf := it_f c4 hf
      refine lv_iconst (v := 1) hx hb dX4_steadiest_25 (by decide) ?_
      refine lv_istore_n (lv' := [(2, .int 1), (0, .ref (ad 0)), (1, .int x1)]) hx hb dX4_steadiest_26 rfl hl (by decide) rfl (fun ls hl => ?_)
      refine lv_iconst (v := 2) hx hb dX4_steadiest_27 (by decide) ?_
      refine lv_istore_n (lv' := [(3, .int 2), (2, .int 1), (0, .ref (ad 0)), (1, .int x1)]) hx hb dX4_steadiest_28 rfl hl (by decide) rfl (fun ls hl => ?_)
      obtain ⟨y14, g15, hL13, hf⟩ := zq_b2_s hf
      refine w_X4_steadiest_L29 C0 (fun H locs ls hP hD hS hl => ?_) 100 1 2 g hL13 _ _ _ hP hD hS (lv_sub hl [2, 3, 1, 0] rfl)
      refine lv_iload_n hx hb dX4_steadiest_60 rfl (lv_at hl 1 rfl) ?_
      refine lv_if_ne (tgt := 68) hx hb dX4_steadiest_61 (by decide) (fun c16 => ?_) (fun c16 => ?_)
      · have hf := it_f c16 hf
        refine lv_iload_n hx hb dX4_steadiest_68 rfl (lv_at hl 1 rfl) ?_
        refine lv_iconst (v := 1) hx hb dX4_steadiest_69 (by decide) ?_
        refine lv_icmp_ne (tgt := 81) hx hb dX4_steadiest_70 (by decide) (fun c17 => ?_) (fun c17 => ?_)
        · have hf := it_f c17 hf
          refine lv_aload_n hx hb dX4_steadiest_81 rfl (lv_at hl 0 rfl) ?_
          refine lv_aload_n hx hb dX4_steadiest_82 rfl (lv_at hl 0 rfl) ?_
          refine gf_X4_144 C0 hP 0 wdM_0 rfl dX4_steadiest_83 ?_
          obtain ⟨r19, g20, hc18, hf⟩ := zq_b2_s hf
          refine zVI (ws' := (wdM ad cy g20 u)) (rest := []) C0 (fun _ h => h) zF.id (c_X4_darkBy hc18) hP hD hS my_X4_darkBy kl_X4_217 ⟨rfl, rfl⟩ ⟨Nat.le_of_ble_eq_true rfl, Nat.le_of_ble_eq_true rfl⟩ (q0 := 0) (ci := 4) rfl wdM_0 rfl hl.1 rfl (Nat.le_of_ble_eq_true rfl) dX4_steadiest_86 ⟨Nat.zero_le _, Nat.zero_le _⟩ (fun H locs hP hD hS => ?_)
          obtain ⟨rfl, rfl⟩ := zq_j2 hf
          exact hret _ _ _ _ rfl dX4_steadiest_89 hP hD hS
        · have hf := it_t c17 hf
          refine lv_aload_n hx hb dX4_steadiest_73 rfl (lv_at hl 0 rfl) ?_
          refine lv_iload_n hx hb dX4_steadiest_74 rfl (lv_at hl 2 rfl) ?_
          obtain ⟨r22, g23, hc21, hf⟩ := zq_b2_s hf
          refine zVI (ws' := (wdM ad cy g23 u)) (rest := []) C0 (fun _ h => h) zF.id (c_X4_darkBy hc21) hP hD hS my_X4_darkBy kl_X4_217 ⟨rfl, rfl⟩ ⟨Nat.le_of_ble_eq_true rfl, Nat.le_of_ble_eq_true rfl⟩ (q0 := 0) (ci := 4) rfl wdM_0 rfl hl.1 rfl (Nat.le_of_ble_eq_true rfl) dX4_steadiest_75 ⟨Nat.zero_le _, Nat.zero_le _⟩ (fun H locs hP hD hS => ?_)
          refine lv_goto (tgt := 89) hx hb dX4_steadiest_78 (by decide) ?_
          obtain ⟨rfl, rfl⟩ := zq_j2 hf
          exact hret _ _ _ _ rfl dX4_steadiest_89 hP hD hS
      · have hf := it_t c16 hf
        refine lv_iload_n hx hb dX4_steadiest_64 rfl (lv_at hl 2 rfl) ?_
        refine lv_goto (tgt := 89) hx hb dX4_steadiest_65 (by decide) ?_
        obtain ⟨rfl, rfl⟩ := zq_j2 hf
        exact hret _ _ _ _ rfl dX4_steadiest_89 hP hD hS
    · have hf := it_t c4 hf
      refine lv_bipush (v := (-3)) hx hb dX4_steadiest_22 (by decide) ?_
      obtain ⟨rfl, rfl⟩ := zq_j2 hf
      exact hret _ _ _ _ rfl dX4_steadiest_24 hP hD hS
  · have hf := it_t c3 hf
    refine lv_bipush (v := (-2)) hx hb dX4_steadiest_12 (by decide) ?_
    obtain ⟨rfl, rfl⟩ := zq_j2 hf
    exact hret _ _ _ _ rfl dX4_steadiest_14 hP hD hS
